/** The terms ahead of the numbered paragraphs: refusals and their order, faults, sets, shares. */
final class TermsEdges {
    private TermsEdges() {
    }

    static void all() {
        orderOfRefusals();
        refusalsChangeNothing();
        faultsByNumber();
        cellsFromOn();
        orderOfFaults();
        answersOfFaults();
        none();
        sets();
        shares();
    }

    private static void orderOfRefusals() {
        DocumentText.terms(0, "REFUSALS, in the order in which a call's line tells them: UNKNOWN (there is no such PLACE, SHEET,"
                + " cell of a row), OUTSIDE (another number is not as told), STATE (as told), FULL;");
        Scene.refused("ofPlace, both wrong", x -> x.ofPlace(3, 6), Scene.UNKNOWN);
        Scene.refused("heap, both wrong", x -> x.heap(3, 100), Scene.UNKNOWN);
        Scene.refused("drop, both wrong", x -> x.drop(3, 100), Scene.UNKNOWN);
        Scene.refused("drop, wrong and full", Scene::full, x -> x.drop(0, 100), Scene.OUTSIDE);
        Scene.refused("topple, no such place that could not", x -> x.topple(3), Scene.UNKNOWN);
        Scene.refused("spill, both wrong", x -> x.spill(3, 3), Scene.UNKNOWN);
        Scene.refused("again, both wrong", x -> x.again(3, 2), Scene.UNKNOWN);
        Scene.refused("reading, both wrong", x -> x.reading(3, 1000), Scene.UNKNOWN);
        Scene.refused("reading, no such place and full", TermsEdges::eightReadings, x -> x.reading(3, 0), Scene.UNKNOWN);
        Scene.refused("reading, wrong and full", TermsEdges::eightReadings, x -> x.reading(0, 1000), Scene.OUTSIDE);
        Scene.refusedNaming("as, both wrong", x -> x.as(3, 3), Scene.UNKNOWN);
        Scene.refusedNaming("yard, both wrong", x -> x.yard(4, 3, 0, 17), Scene.UNKNOWN);
        Scene.refusedNaming("sheet, both wrong", x -> x.sheet(4, 3, 61), Scene.UNKNOWN);
        Scene.refusedNaming("day, all wrong", x -> x.day(4, 3, 0, 21, 5), Scene.UNKNOWN);
        Scene.refusedNaming("day, wrong and no yard", Scene::noYard, x -> x.day(2, 2, 0, 21, 0), Scene.OUTSIDE);
        Scene.refusedNaming("day, no sheet and no yard", Scene::noYard, x -> x.day(4, 2, 0, 1, 0), Scene.UNKNOWN);
        Scene.refusedNaming("alike, no yard and all wrong", Scene::noYard, x -> x.alike(4, 3, -1), Scene.STATE);
        Scene.refusedNaming("alike, no yard and lane wrong", Scene::noYard, x -> x.alike(2, 3, 0), Scene.STATE);
        Scene.refusedNaming("alike, both wrong", x -> x.alike(4, 3, -1), Scene.UNKNOWN);
    }

    private static ToppleYard eightReadings() {
        ToppleYard x = Scene.inUse();
        for (int r = 0; r < 6; r++) {
            x.reading(0, r);
        }
        return x;
    }

    private static void refusalsChangeNothing() {
        DocumentText.terms(0, "they change nothing (but fault(), of a call that names FAULTS).");
        Scene.refused("paths", x -> x.paths(0, 3), Scene.UNKNOWN);
        Scene.refused("heap", x -> x.heap(0, 100), Scene.OUTSIDE);
        Scene.refused("drop", x -> x.drop(0, 100), Scene.OUTSIDE);
        Scene.refused("drop, full", Scene::full, x -> x.drop(0, 1), Scene.FULL);
        Scene.refused("topple", x -> x.topple(0), Scene.STATE);
        Scene.refused("settle", Scene::noYard, x -> x.settle(), Scene.STATE);
        Scene.refused("burnt", Scene::noYard, x -> x.burnt(), Scene.STATE);
        Scene.refused("trees", Scene::noYard, x -> x.trees(), Scene.LOST);
        Scene.refused("reading", TermsEdges::eightReadings, x -> x.reading(0, 0), Scene.FULL);
        Scene.refused("back", x -> x.back(3), Scene.OUTSIDE);
        Scene.refused("kinds", x -> x.kinds(3), Scene.UNKNOWN);
        Scene.refused("heapings", x -> x.heapings(3), Scene.UNKNOWN);
        Scene.refused("odds", x -> x.odds(2), Scene.LOST);
        Scene.refused("lose", x -> x.lose(4), Scene.UNKNOWN);
        Scene.refused("tell", x -> x.tell(3), Scene.UNKNOWN);
        Scene.refused("strike", x -> x.strike(3), Scene.UNKNOWN);
        Scene.refused("many", x -> x.many(5), Scene.OUTSIDE);
        Scene.refusedNaming("yard", x -> x.yard(0, 3, 0, 17), Scene.OUTSIDE);
        Scene.refusedNaming("day", x -> x.day(2, 2, 0, 21, 0), Scene.OUTSIDE);
        Scene.refusedNaming("alike", x -> x.alike(2, 3, 0), Scene.OUTSIDE);
        Scene.refusedNaming("sheet", x -> x.sheet(1, 0, 61), Scene.OUTSIDE);
        Scene.refusedNaming("put", x -> x.put(4, 0, 1), Scene.UNKNOWN);
        Scene.refusedNaming("cell", x -> x.cell(4, 0, 0), Scene.LOST);
        Scene.refusedNaming("copy", x -> x.copy(2, 0, 4, 1, 1), Scene.UNKNOWN);
        Scene.refusedNaming("as", x -> x.as(0, 3), Scene.OUTSIDE);
    }

    private static void faultsByNumber() {
        DocumentText.terms(0, "FAULTS are the machine's: 1 NULL (there is nothing), 2 CAST (it is of another lane, kind), 3 INDEX");
        Scene.faulted("nothing", x -> x.put(3, 0, 1), 1);
        Scene.faulted("nothing behind a row", TermsEdges::lost, x -> x.put(1, 0, 1), 1);
        Scene.faulted("a row of none is not nothing", TermsEdges::rowOfNone, x -> x.put(3, 0, 1), 3);
        Scene.faulted("another lane", x -> x.alike(2, 1, 0), 2);
        Scene.faulted("another kind", x -> x.as(0, 1), 2);
        Scene.faulted("no such cell", x -> x.put(1, 3, 1), 3);
        DocumentText.terms(0, ", 4 SIZE (a length below 0).");
        Scene.faulted("a row", x -> x.sheet(1, 0, -1), 4);
        Scene.faulted("a text", x -> x.yard(0, 0, 0, -1), 4);
        DocumentText.due("none is no fault", Scene.inUse().sheet(1, 0, 0), 1);
        Scene.refusedNaming("a text of none is no fault", x -> x.yard(0, 0, 0, 0), -100);
    }

    private static ToppleYard lost() {
        ToppleYard x = Scene.inUse();
        x.lose(1);
        return x;
    }

    private static ToppleYard rowOfNone() {
        ToppleYard x = Scene.inUse();
        x.sheet(3, 0, 0);
        return x;
    }

    /** Sheet 2 has 5 ints, sheet 1 has 3 shorts. */
    private static void cellsFromOn() {
        DocumentText.terms(0, "(of cells from i on also where i is not 0 .. how many there are, if none of them is taken, too)");
        Scene.leavesAll("day of no pairs from 0 on", Scene::inUse, x -> x.day(2, 2, 0, 0, 0), 9, 0);
        Scene.leavesAll("day just behind the last", Scene::inUse, x -> x.day(2, 2, 5, 0, 0), 9, 0);
        Scene.faulted("day, one beyond", x -> x.day(2, 2, 6, 0, 0), 3);
        Scene.faulted("day, one below", x -> x.day(2, 2, -1, 0, 0), 3);
        Scene.faulted("day, far below", x -> x.day(2, 2, Scene.MIN, 0, 0), 3);
        Scene.leavesAll("text of none just behind the last", Scene::inUse, x -> x.yard(1, 1, 3, 0), -100, 0);
        Scene.faulted("text of none, one beyond", x -> x.yard(1, 1, 4, 0), 3);
        Scene.faulted("text of none, one below", x -> x.yard(1, 1, -1, 0), 3);
        Scene.faulted("text of none, far beyond", x -> x.yard(1, 1, Scene.MAX, 0), 3);
        Scene.leavesAll("copy of none just behind the last", Scene::inUse, x -> x.copy(2, 5, 2, 5, 0), 0, 0);
        Scene.faulted("copy of none, one beyond", x -> x.copy(2, 6, 2, 0, 0), 3);
        Scene.faulted("copy of none to one beyond", x -> x.copy(2, 0, 2, 6, 0), 3);
        Scene.faulted("copy of none, one below", x -> x.copy(2, -1, 2, 0, 0), 3);
        Scene.faulted("copy of none to one below", x -> x.copy(2, 0, 2, -1, 0), 3);
        Scene.leavesAll("day of no pairs of a row of none", TermsEdges::rowOfNone, x -> x.day(3, 0, 0, 0, 0), 9, 0);
        Scene.faulted("a row of none, one beyond", TermsEdges::rowOfNone, x -> x.day(3, 0, 1, 0, 0), 3);
    }

    private static void orderOfFaults() {
        DocumentText.terms(0, "Of a call the first that is come to, in the order told;");
        Scene.faulted("yard: CAST ahead of SIZE, INDEX", x -> x.yard(0, 1, -1, -1), 2);
        Scene.faulted("yard: NULL ahead of SIZE, INDEX", x -> x.yard(3, 1, -1, -1), 1);
        Scene.faulted("yard: SIZE ahead of INDEX", x -> x.yard(0, 0, -1, -1), 4);
        Scene.faulted("yard: INDEX ahead of a first fault", x -> x.yard(1, 1, 0, 4), 3);
        Scene.faulted("day: CAST ahead of INDEX", x -> x.day(2, 1, -1, 1, 0), 2);
        Scene.faulted("day: NULL ahead of INDEX", x -> x.day(3, 1, -1, 1, 0), 1);
        Scene.faulted("day: CAST ahead of no yard", Scene::noYard, x -> x.day(2, 1, 0, 1, 0), 2);
        Scene.faulted("day: NULL ahead of no yard", Scene::noYard, x -> x.day(3, 1, 0, 1, 0), 1);
        Scene.faulted("day: INDEX ahead of no yard", Scene::noYard, x -> x.day(2, 2, 0, 3, 0), 3);
        Scene.faulted("alike: CAST ahead of INDEX", x -> x.alike(2, 1, -1), 2);
        Scene.faulted("alike: NULL ahead of INDEX", x -> x.alike(3, 1, -1), 1);
        Scene.faulted("alike: INDEX ahead of a wrong cell", x -> x.alike(1, 1, 1), 3);
        Scene.faulted("put: NULL ahead of INDEX", x -> x.put(3, -1, 1), 1);
        Scene.leavesAll("cell: CAST ahead of INDEX", Scene::inUse, x -> x.cell(1, -1, 0), Scene.LOST, 2);
        Scene.leavesAll("cell: NULL ahead of INDEX", Scene::inUse, x -> x.cell(3, -1, 0), Scene.LOST, 1);
        Scene.faulted("copy: NULL ahead of INDEX", x -> x.copy(3, -1, 2, -1, -1), 1);
        Scene.faulted("copy: the other's NULL ahead of INDEX", x -> x.copy(2, -1, 3, -1, -1), 1);
        Scene.faulted("copy: CAST ahead of INDEX", x -> x.copy(2, -1, 1, -1, -1), 2);
    }

    private static void answersOfFaults() {
        DocumentText.terms(0, "it answers -10 less it (LOST, where a long is answered, as for refusals) and changes nothing;"
                + " fault() tells it.");
        Scene.leavesAll("NULL", Scene::inUse, x -> x.copy(2, 0, 3, 0, 1), -11, 1);
        Scene.leavesAll("CAST", Scene::inUse, x -> x.copy(2, 0, 1, 0, 1), -12, 2);
        Scene.leavesAll("INDEX", Scene::inUse, x -> x.copy(2, 0, 2, 1, 5), -13, 3);
        Scene.leavesAll("SIZE", Scene::inUse, x -> x.sheet(1, 1, -1), -14, 4);
        Scene.leavesAll("a long, NULL", Scene::inUse, x -> x.cell(3, 0, 0), Scene.LOST, 1);
        Scene.leavesAll("a long, CAST", Scene::inUse, x -> x.cell(1, 0, 0), Scene.LOST, 2);
        Scene.leavesAll("a long, INDEX", Scene::inUse, x -> x.cell(1, 3, 1), Scene.LOST, 3);
        Scene.leavesAll("a long, refused", Scene::inUse, x -> x.cell(1, 0, 3), Scene.LOST, 0);
    }

    private static void none() {
        DocumentText.terms(0, "NONE is -9.");
        DocumentText.due("the constant", ToppleYard.NONE, -9);
        DocumentText.due("no first wrong", Scene.inUse().day(2, 2, 0, 0, 1), -9);
    }

    private static void sets() {
        DocumentText.terms(0, "Sets are told as bits (bit k for number k).");
        ToppleYard x = Check.withYard("y50000000000;p10;b20;b20;b20;p10");
        DocumentText.due("place 0 alone topples", x.spill(0, 2), 1);
        DocumentText.due("place 1 topples none", x.spill(1, 2), 0);
        DocumentText.due("place 4 alone topples", x.spill(4, 2), 16);
        DocumentText.due("places 0 and 4 burn", x.burnt(), 17);
        DocumentText.due("kinds 0 .. 2", x.kinds(0), 7);
        DocumentText.due("heaps 0 .. 19", x.heapings(0), 1048575);
    }

    private static void shares() {
        DocumentText.terms(0, "Shares are told as upper and lower number (above 0) in least terms.");
        ToppleYard x = Check.withYard("y4000000;p20;p20;p20;p20");
        long[][] shares = {{0, 1}, {1, 4}, {1, 2}, {3, 4}, {1, 1}};
        for (int some = 0; some <= 4; some++) {
            DocumentText.due(some + " of 4, upper", x.odds(0), shares[some][0]);
            DocumentText.due(some + " of 4, lower", x.odds(1), shares[some][1]);
            x.heap(some, 1);
        }
    }
}
