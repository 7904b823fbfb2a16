/** What was set off: readings, kinds, heapings, odds (terms 4), promises 15 to 19. */
final class ReadingEdges {
    /** No paths between them: place 0 gives 2 at once to the pit, place 1 gives 1. */
    private static final String APART = "y20;p20;p10";

    private ReadingEdges() {
    }

    static void all() {
        eightAtMost();
        asAllIsNow();
        allThatFollows();
        oddsTerms();
        reading();
        back();
        kinds();
        heapings();
        odds();
    }

    private static ToppleYard read(String text, int heap, int place, int topplings) {
        ToppleYard x = Check.withYard(text);
        x.heap(0, heap);
        x.reading(place, topplings);
        return x;
    }

    private static void eightAtMost() {
        DocumentText.terms(4, "READINGS, 8 at most, numbered by how many there are:");
        ToppleYard x = Check.withYard(APART);
        for (int r = 0; r < 8; r++) {
            DocumentText.due("number", x.reading(r % 2, r), r);
            DocumentText.due("many", x.many(4), r + 1);
        }
        DocumentText.due("a ninth", x.reading(0, 0), Scene.FULL);
        DocumentText.due("many", x.many(4), 8);
        DocumentText.due("one back", x.back(1), 7);
        DocumentText.due("the last number again", x.reading(0, 0), 7);
        DocumentText.due("a ninth", x.reading(0, 0), Scene.FULL);
    }

    private static void asAllIsNow() {
        DocumentText.terms(4, "SPILL of a PLACE (as all is now) sets off so many TOPPLINGS.");
        ToppleYard x = read(APART, 0, 0, 0);
        DocumentText.due("none by 1 grain, whatever it is", x.kinds(0), 7);
        x.heap(0, 1);
        DocumentText.due("2 grains: no plain one", x.kinds(0), 6);
        x.heap(0, 2);
        DocumentText.due("3 grains: a double one", x.kinds(0), 4);
        x.heap(0, 3);
        DocumentText.due("4 grains: none", x.kinds(0), 0);
        DocumentText.due("set off at another place, too", read(APART, 4, 1, 3).kinds(0), 1);
        DocumentText.due("set off at another place, too", read(APART, 4, 1, 2).kinds(0), 6);
        DocumentText.due("100 topplings of a plain one, 99 of others", read("y20;p10;p10", 99, 0, 100).kinds(0), 1);
        ToppleYard high = Check.withYard("y20;p10;p10");
        Scene.raise(high, 0, 998);
        high.reading(0, 999);
        DocumentText.due("999 topplings", high.kinds(0), 1);
        high.drop(0, 1);
        DocumentText.due("1000 topplings of a plain one, 999 of others", high.kinds(0), 6);
    }

    private static void allThatFollows() {
        DocumentText.terms(4, "All that follows: in place of what it is alone, by which all READINGS are so: KINDS of a PLACE: 0 .. 2;"
                + " HEAPINGS of a PLACE: HEAP 0 .. 19; as sets.");
        // With 3 and 1 more a plain one topples twice, a broad and a double one once.
        DocumentText.due("kind 0 alone", read(APART, 3, 0, 2).kinds(0), 1);
        DocumentText.due("kinds 1, 2", read(APART, 3, 0, 1).kinds(0), 6);
        DocumentText.due("kind 2 alone", read(APART, 2, 0, 0).kinds(0), 4);
        DocumentText.due("kinds 0, 1", read(APART, 2, 0, 1).kinds(0), 3);
        DocumentText.due("in place of another it isn't so", read(APART, 2, 0, 0).kinds(1), 0);
        DocumentText.due("in place of another it is so", read(APART, 2, 0, 1).kinds(1), 7);
        DocumentText.due("heap 0 alone", read(APART, 5, 0, 0).heapings(0), 1);
        DocumentText.due("heaps 1, 2", read(APART, 5, 0, 1).heapings(0), 6);
        DocumentText.due("heap 19, not 20", read(APART, 5, 0, 10).heapings(0), 1 << 19);
        DocumentText.due("heaps 20, 21 are too high", read(APART, 20, 0, 11).heapings(0), 0);
        DocumentText.due("in place of another it isn't so", read(APART, 5, 0, 2).heapings(1), 0);
        DocumentText.due("in place of another: none of its own", read(APART, 5, 0, 3).heapings(1), 1);
        DocumentText.due("by another's spill: heaps 18, 19", read(APART, 5, 1, 10).heapings(0), 3 << 18);
        ToppleYard two = read(APART, 5, 0, 1);
        two.reading(1, 2);
        DocumentText.due("all readings: heap 2 of 1, 2 and 2, 3", two.heapings(0), 4);
        two.reading(1, 1);
        DocumentText.due("not all can be", two.heapings(0), 0);
        DocumentText.due("not all can be", two.kinds(0), 0);
        two.back(3);
        DocumentText.due("no readings, all kinds", two.kinds(0), 7);
        DocumentText.due("no readings, all heaps", two.heapings(0), 0xFFFFF);
    }

    private static void oddsTerms() {
        DocumentText.terms(4, "ODDS: of all PLACES, all alike, the share of those by whose SPILL anything TOPPLES.");
        ToppleYard x = Check.withYard(Scene.MIXED);
        Scene.heaps(x, 1, 1, 6);
        dueOdds("two less than each bears", x, 0, 1);
        Scene.heaps(x, 2, 1, 6);
        dueOdds("place 0", x, 1, 3);
        Scene.heaps(x, 2, 1, 7);
        dueOdds("places 0, 2", x, 2, 3);
        Scene.heaps(x, 2, 2, 7);
        dueOdds("one less than each bears", x, 1, 1);
        Scene.heaps(x, 0, 0, 8);
        dueOdds("not settled: by each", x, 1, 1);
    }

    private static void dueOdds(String name, ToppleYard x, long upper, long lower) {
        DocumentText.due(name + ", upper", x.odds(0), upper);
        DocumentText.due(name + ", lower", x.odds(1), lower);
    }

    private static ToppleYard eight() {
        ToppleYard x = Scene.inUse();
        for (int r = 0; r < 6; r++) {
            x.reading(0, r);
        }
        return x;
    }

    private static void reading() {
        DocumentText.promise(15, "A READING: its number.");
        ToppleYard x = Scene.inUse();
        DocumentText.due("the third", x.reading(0, 0), 2);
        DocumentText.due("the fourth", x.reading(2, 999), 3);
        DocumentText.due("the same again", x.reading(2, 999), 4);
        DocumentText.due("many", x.many(4), 5);
        DocumentText.due("names no fault", x.fault(), 4);
        DocumentText.promise(15, "UNKNOWN; OUTSIDE: topplings (0 .. 999);");
        for (int p : Scene.NO_PLACES) {
            Scene.refused("place " + p, y -> y.reading(p, 0), Scene.UNKNOWN);
        }
        Scene.refused("no yard", Scene::noYard, y -> y.reading(0, 0), Scene.UNKNOWN);
        for (int topplings : new int[] {-1, 1000, Scene.MIN, Scene.MAX}) {
            Scene.refused("topplings " + topplings, y -> y.reading(0, topplings), Scene.OUTSIDE);
        }
        DocumentText.promise(15, "FULL.");
        Scene.refused("a ninth", ReadingEdges::eight, y -> y.reading(0, 0), Scene.FULL);
    }

    private static void back() {
        DocumentText.promise(16, "The last n READINGS (0 .. as many as there are) are taken back: how many are left.");
        Scene.leavesAll("none", ReadingEdges::eight, x -> x.back(0), 8, Scene.SIZE);
        DocumentText.due("all", eight().back(8), 0);
        DocumentText.due("all but one", eight().back(7), 1);
        DocumentText.due("none of none", new ToppleYard().back(0), 0);
        ToppleYard x = read(APART, 0, 0, 0);
        x.reading(0, 5);
        DocumentText.due("not so with the last", x.kinds(0), 0);
        DocumentText.due("the last", x.back(1), 1);
        DocumentText.due("the first is left", x.heapings(0), 1);
        DocumentText.due("number", x.reading(0, 0), 1);
        DocumentText.promise(16, "OUTSIDE.");
        for (int n : new int[] {-1, 3, Scene.MIN, Scene.MAX}) {
            Scene.refused("of 2, " + n, y -> y.back(n), Scene.OUTSIDE);
        }
        Scene.refused("of 8, 9", ReadingEdges::eight, y -> y.back(9), Scene.OUTSIDE);
        Scene.refused("no yard, 1", Scene::noYard, y -> y.back(1), Scene.OUTSIDE);
    }

    private static void kinds() {
        DocumentText.promise(17, "KINDS, as a set.");
        for (int p = 0; p < 3; p++) {
            int place = p;
            Scene.leavesAll("no readings, place " + p, ReadingEdges::noReadings, x -> x.kinds(place), 7, Scene.SIZE);
        }
        // Place 0 as a plain one is what it is; its 1 grain and 2 from place 2 are 3, fewer than others bear.
        Scene.leavesAll("place 0", Scene::inUse, x -> x.kinds(0), 1, Scene.SIZE);
        DocumentText.promise(17, "UNKNOWN.");
        for (int p : Scene.NO_PLACES) {
            Scene.refused("place " + p, x -> x.kinds(p), Scene.UNKNOWN);
        }
        Scene.refused("no yard", Scene::noYard, x -> x.kinds(0), Scene.UNKNOWN);
    }

    private static ToppleYard noReadings() {
        ToppleYard x = Scene.inUse();
        x.back(2);
        return x;
    }

    private static void heapings() {
        DocumentText.promise(18, "HEAPINGS, as a set.");
        for (int p = 0; p < 3; p++) {
            int place = p;
            Scene.leavesAll("no readings, place " + p, ReadingEdges::noReadings, x -> x.heapings(place), 0xFFFFF, Scene.SIZE);
        }
        // Of place 1: place 0 gives it 1, and it must be at rest still: 0 or 1. Its own spill: 0 or 1.
        Scene.leavesAll("place 1", Scene::inUse, x -> x.heapings(1), 3, Scene.SIZE);
        DocumentText.promise(18, "UNKNOWN.");
        for (int p : Scene.NO_PLACES) {
            Scene.refused("place " + p, x -> x.heapings(p), Scene.UNKNOWN);
        }
        Scene.refused("no yard", Scene::noYard, x -> x.heapings(0), Scene.UNKNOWN);
    }

    private static void odds() {
        DocumentText.promise(19, "ODDS (which 0 the upper, 1 the lower number).");
        Scene.leavesAll("place 2 of 3, upper", Scene::inUse, x -> x.odds(0), 1, Scene.SIZE);
        Scene.leavesAll("place 2 of 3, lower", Scene::inUse, x -> x.odds(1), 3, Scene.SIZE);
        ToppleYard five = Check.withYard("y50000000000;p20;p20;p20;p20;p20");
        long[][] wants = {{0, 1}, {1, 5}, {2, 5}, {3, 5}, {4, 5}, {1, 1}};
        for (int some = 0; some <= 5; some++) {
            dueOdds(some + " of 5", five, wants[some][0], wants[some][1]);
            five.heap(some, 1);
        }
        ToppleYard two = Check.withYard("y20;p10;p20");
        dueOdds("1 of 2", two, 1, 2);
        two.heap(1, 1);
        dueOdds("2 of 2", two, 1, 1);
        DocumentText.promise(19, "LOST: OUTSIDE; STATE: there is no YARD.");
        for (int which : new int[] {-1, 2, Scene.MIN, Scene.MAX}) {
            Scene.refused("which " + which, x -> x.odds(which), Scene.LOST);
        }
        Scene.refused("no yard, 0", Scene::noYard, x -> x.odds(0), Scene.LOST);
        Scene.refused("no yard, 1", Scene::noYard, x -> x.odds(1), Scene.LOST);
    }
}
