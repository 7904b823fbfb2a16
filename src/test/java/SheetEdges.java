import java.math.BigInteger;
import java.util.function.ToLongFunction;

/** Sheets and parts: rows and lanes, telling and striking (terms 5), promises 20 to 30. */
final class SheetEdges {
    private static final int[] CUT = {0, 1, -1, 127, 128, -128, -129, 255, 256, 257, 32767, 32768, -32768, -32769, 65535, 65536,
        Integer.MAX_VALUE, Integer.MIN_VALUE};

    private SheetEdges() {
    }

    static void all() {
        rows();
        cutToLane();
        telling();
        struck();
        sheet();
        lose();
        put();
        cell();
        copy();
        copyFaults();
        tell();
        strike();
        as();
        trace();
        fault();
        many();
    }

    private static int cut(int v, int lane) {
        return lane == 0 ? (byte) v : lane == 1 ? (short) v : v;
    }

    private static void rows() {
        DocumentText.terms(5, "SHEETS 0 .. 3 have nothing (at first), or a row of 0 .. 60 numbers (0 at first) of a LANE:"
                + " 0 bytes, 1 shorts, 2 ints;");
        for (int k = 0; k <= 3; k++) {
            for (int lane = 0; lane <= 2; lane++) {
                ToppleYard x = new ToppleYard();
                DocumentText.due("nothing at first", x.cell(k, 0, lane), Scene.LOST);
                DocumentText.due("nothing at first", x.fault(), 1);
                DocumentText.due("a row of 0", x.sheet(k, lane, 0), 1);
                DocumentText.due("no cell", x.cell(k, 0, lane), Scene.LOST);
                DocumentText.due("no cell", x.fault(), 3);
                DocumentText.due("a row of 60", x.sheet(k, lane, 60), 1);
                for (int i = 0; i < 60; i++) {
                    DocumentText.due("0 at first", x.cell(k, i, lane), 0);
                }
                DocumentText.due("no 61st cell", x.cell(k, 60, lane), Scene.LOST);
            }
        }
    }

    private static void cutToLane() {
        DocumentText.terms(5, "what comes to a cell of it is cut to its LANE.");
        for (int lane = 0; lane <= 2; lane++) {
            ToppleYard x = new ToppleYard();
            x.sheet(0, lane, 1);
            for (int v : CUT) {
                DocumentText.due("put " + v, x.put(0, 0, v), 1);
                DocumentText.due(v + " in lane " + lane, x.cell(0, 0, lane), cut(v, lane));
            }
        }
        ToppleYard text = new ToppleYard();
        Check.row(text, 0, 0, 'y' + 256, '2', '1' - 256, ';', 'p', '1', '3', ';', 'b', '0', '2');
        DocumentText.due("a text of codes that are cut", text.yard(0, 0, 0, 11), 2);
        Check.row(text, 0, 1, 1 + 65536, 10, 9 - 65536, 11);
        DocumentText.due("a day of numbers that are cut", text.day(0, 1, 0, 2, 0), 10);
    }

    private static int traceOf(int... bodies) {
        int trace = 0;
        for (int body : bodies) {
            trace = 31 * trace + body;
        }
        return trace;
    }

    private static void telling() {
        DocumentText.terms(5, "TELLING of PLACES by bodies that leave their number in TRACE (an int that wraps, 0 at first,"
                + " becomes 31 times it and the number) as they begin:");
        ToppleYard x = Check.withYard(Scene.MIXED);
        DocumentText.due("0 at first", x.trace(), 0);
        BigInteger trace = BigInteger.ZERO;
        for (int t = 0; t < 60; t++) {
            x.strike(2);
            trace = trace.multiply(BigInteger.valueOf(31)).add(BigInteger.valueOf(5));
            DocumentText.due("it wraps", x.trace(), trace.intValue());
        }
        DocumentText.terms(5, "PLAIN (1): HEAP.");
        dueTold(0, 0, 0, 1);
        dueTold(0, 99, 99, 1);
        DocumentText.terms(5, "BROAD (2): what PLAIN's gives, and 100.");
        dueTold(1, 0, 100, 2, 1);
        dueTold(1, 99, 199, 2, 1);
        DocumentText.terms(5, "DOUBLE (3): what BROAD's gives, and what PLAIN's gives (BROAD's left out).");
        dueTold(2, 0, 100, 3, 2, 1, 1);
        dueTold(2, 99, 298, 3, 2, 1, 1);
    }

    private static void dueTold(int p, int heap, int want, int... bodies) {
        ToppleYard x = Check.withYard(Scene.MIXED);
        x.heap(p, heap);
        DocumentText.due("place " + p + " with " + heap, x.tell(p), want);
        DocumentText.due("trace", x.trace(), traceOf(bodies));
    }

    private static void struck() {
        DocumentText.terms(5, "STRUCK by a lent body (4): PATHS to the PIT; DOUBLE ones have their own (5): 60.");
        for (int pit = 0; pit <= 3; pit++) {
            for (int kind = 0; kind <= 2; kind++) {
                ToppleYard x = Check.withYard("y21;" + "pbd".charAt(kind) + pit + "7;p10");
                DocumentText.due("kind " + kind + ", " + pit + " paths", x.strike(0), kind == 2 ? 60 : pit);
                DocumentText.due("trace", x.trace(), kind == 2 ? 5 : 4);
            }
        }
    }

    private static void sheet() {
        DocumentText.promise(20, "A SHEET gets a new row: 1.");
        for (int lane = 0; lane <= 2; lane++) {
            ToppleYard x = Scene.inUse();
            DocumentText.due("a row", x.sheet(1, lane, 3), 1);
            DocumentText.due("no fault", x.fault(), 0);
            for (int i = 0; i < 3; i++) {
                DocumentText.due("nothing of the old one", x.cell(1, i, lane), 0);
            }
            DocumentText.due("no more", x.cell(1, 3, lane), Scene.LOST);
            DocumentText.due("another stays", x.cell(2, 4, 2), 8);
            DocumentText.due("the yard stays", x.many(1), 9);
        }
        ToppleYard again = new ToppleYard();
        Check.row(again, 0, 2, 7, 7, 7);
        again.sheet(0, 2, 1);
        again.sheet(0, 2, 3);
        DocumentText.due("short, then long", again.cell(0, 2, 2), 0);
        DocumentText.promise(20, "UNKNOWN; OUTSIDE: lane, n above 60; SIZE.");
        for (int k : Scene.NO_SHEETS) {
            Scene.refusedNaming("sheet " + k, x -> x.sheet(k, 0, 1), Scene.UNKNOWN);
        }
        for (int lane : Scene.NO_LANES) {
            Scene.refusedNaming("lane " + lane, x -> x.sheet(1, lane, 1), Scene.OUTSIDE);
            Scene.refusedNaming("lane " + lane + " ahead of the size", x -> x.sheet(1, lane, -1), Scene.OUTSIDE);
        }
        for (int n : new int[] {61, 100, Scene.MAX}) {
            Scene.refusedNaming("n " + n, x -> x.sheet(1, 0, n), Scene.OUTSIDE);
        }
        for (int n : new int[] {-1, -60, Scene.MIN}) {
            Scene.faulted("n " + n, x -> x.sheet(1, 0, n), 4);
            Scene.faulted("n " + n + " for nothing", x -> x.sheet(3, 0, n), 4);
        }
        DocumentText.due("60", Scene.inUse().sheet(1, 0, 60), 1);
        DocumentText.due("0", Scene.inUse().sheet(1, 0, 0), 1);
    }

    private static void lose() {
        DocumentText.promise(21, "A SHEET has nothing: 1; 0: it had nothing.");
        for (int k = 0; k <= 2; k++) {
            ToppleYard x = Scene.inUse();
            DocumentText.due("had a row", x.lose(k), 1);
            DocumentText.due("names no fault", x.fault(), 4);
            DocumentText.due("has nothing", x.put(k, 0, 0), -11);
            DocumentText.due("had nothing", x.lose(k), 0);
            DocumentText.due("another stays", x.put((k + 1) % 3, 0, 0), 1);
            DocumentText.due("the yard stays", x.many(1), 9);
        }
        Scene.leavesAll("nothing", Scene::inUse, x -> x.lose(3), 0, Scene.SIZE);
        ToppleYard none = new ToppleYard();
        none.sheet(3, 2, 0);
        DocumentText.due("a row of none", none.lose(3), 1);
        none.sheet(3, 0, 1);
        DocumentText.due("a new row behind it", none.put(3, 0, 5), 1);
        DocumentText.promise(21, "UNKNOWN.");
        for (int k : Scene.NO_SHEETS) {
            Scene.refused("sheet " + k, x -> x.lose(k), Scene.UNKNOWN);
        }
    }

    private static void put() {
        DocumentText.promise(22, "Cell i of a SHEET becomes v: 1.");
        ToppleYard x = new ToppleYard();
        x.sheet(0, 2, 60);
        DocumentText.due("the first cell", x.put(0, 0, 5), 1);
        DocumentText.due("the last cell", x.put(0, 59, -6), 1);
        DocumentText.due("the first cell", x.cell(0, 0, 2), 5);
        DocumentText.due("beside it", x.cell(0, 1, 2), 0);
        DocumentText.due("the last cell", x.cell(0, 59, 2), -6);
        DocumentText.due("again", x.put(0, 0, 7), 1);
        DocumentText.due("again", x.cell(0, 0, 2), 7);
        DocumentText.due("no fault", x.fault(), 0);
        DocumentText.promise(22, "UNKNOWN; NULL; INDEX.");
        for (int k : Scene.NO_SHEETS) {
            Scene.refusedNaming("sheet " + k, y -> y.put(k, 0, 1), Scene.UNKNOWN);
        }
        Scene.faulted("nothing", y -> y.put(3, 0, 1), 1);
        for (int i : new int[] {-1, 3, 60, Scene.MIN, Scene.MAX}) {
            Scene.faulted("cell " + i, y -> y.put(1, i, 1), 3);
        }
        Scene.faulted("a row of none", SheetEdges::rowOfNone, y -> y.put(1, 0, 1), 3);
        DocumentText.due("cell 60 of 60", x.put(0, 60, 1), -13);
    }

    private static ToppleYard rowOfNone() {
        ToppleYard x = Scene.inUse();
        x.sheet(1, 1, 0);
        return x;
    }

    private static void cell() {
        DocumentText.promise(23, "Cell i of what a SHEET has, taken as a row of a LANE.");
        long[] wants = {5, -6, 700};
        for (int i = 0; i < 3; i++) {
            int at = i;
            Scene.leavesAll("cell " + i, Scene::inUse, x -> x.cell(1, at, 1), wants[i], 0);
        }
        DocumentText.promise(23, "LOST: UNKNOWN, OUTSIDE: lane;");
        for (int k : Scene.NO_SHEETS) {
            Scene.refusedNaming("sheet " + k, x -> x.cell(k, 0, 1), Scene.LOST);
        }
        for (int lane : Scene.NO_LANES) {
            Scene.refusedNaming("lane " + lane, x -> x.cell(1, 0, lane), Scene.LOST);
            Scene.refusedNaming("lane " + lane + " of nothing", x -> x.cell(3, 0, lane), Scene.LOST);
        }
        DocumentText.promise(23, "FAULTS CAST (nothing is no CAST), NULL, INDEX.");
        for (int lane = 0; lane <= 2; lane++) {
            int asked = lane;
            for (int k = 0; k <= 2; k++) {
                int sheet = k;
                if (k != lane) {
                    Scene.leavesAll("lane " + k + " as " + lane, Scene::inUse, x -> x.cell(sheet, 0, asked), Scene.LOST, 2);
                    Scene.leavesAll("lane " + k + " as " + lane, Scene::inUse, x -> x.cell(sheet, -1, asked), Scene.LOST, 2);
                }
            }
            Scene.leavesAll("nothing as " + lane, Scene::inUse, x -> x.cell(3, 0, asked), Scene.LOST, 1);
        }
        for (int i : new int[] {-1, 3, 60, Scene.MIN, Scene.MAX}) {
            Scene.leavesAll("cell " + i, Scene::inUse, x -> x.cell(1, i, 1), Scene.LOST, 3);
        }
        Scene.leavesAll("a row of none", SheetEdges::rowOfNone, x -> x.cell(1, 0, 1), Scene.LOST, 3);
    }

    private static void dueRow(String name, ToppleYard x, int k, int... row) {
        for (int i = 0; i < row.length; i++) {
            DocumentText.due(name + ", cell " + i, x.cell(k, i, 2), row[i]);
        }
        DocumentText.due(name + ", no more", x.cell(k, row.length, 2), Scene.LOST);
    }

    private static void copy() {
        DocumentText.promise(24, "n cells of a SHEET from i on go to another one (perhaps the same) from j on, as they were: n.");
        ToppleYard x = Scene.inUse();
        Check.row(x, 3, 2, 1, 2, 3, 4);
        DocumentText.due("all", x.copy(3, 0, 2, 1, 4), 4);
        dueRow("all", x, 2, 0, 1, 2, 3, 4);
        dueRow("the first stays", x, 3, 1, 2, 3, 4);
        DocumentText.due("one, the last to the first", x.copy(2, 4, 3, 0, 1), 1);
        dueRow("one", x, 3, 4, 2, 3, 4);
        DocumentText.due("none from behind the last", x.copy(2, 5, 3, 4, 0), 0);
        dueRow("none", x, 3, 4, 2, 3, 4);
        DocumentText.due("on itself, forth", x.copy(2, 0, 2, 1, 4), 4);
        dueRow("on itself, forth", x, 2, 0, 0, 1, 2, 3);
        DocumentText.due("on itself, back", x.copy(2, 2, 2, 0, 3), 3);
        dueRow("on itself, back", x, 2, 1, 2, 3, 2, 3);
        DocumentText.due("on itself, where it is", x.copy(2, 0, 2, 0, 5), 5);
        DocumentText.due("no fault", x.fault(), 0);
        dueRow("on itself, where it is", x, 2, 1, 2, 3, 2, 3);
        ToppleYard most = new ToppleYard();
        most.sheet(0, 0, 60);
        most.sheet(1, 0, 60);
        most.put(0, 59, -128);
        DocumentText.due("60", most.copy(0, 0, 1, 0, 60), 60);
        DocumentText.due("the last", most.cell(1, 59, 0), -128);
    }

    private static void copyFaults() {
        DocumentText.promise(24, "UNKNOWN;");
        for (int k : Scene.NO_SHEETS) {
            Scene.refusedNaming("from " + k, x -> x.copy(k, 0, 2, 0, 1), Scene.UNKNOWN);
            Scene.refusedNaming("to " + k, x -> x.copy(2, 0, k, 0, 1), Scene.UNKNOWN);
            Scene.refusedNaming("from nothing to " + k, x -> x.copy(3, 0, k, 0, 1), Scene.UNKNOWN);
        }
        DocumentText.promise(24, "FAULTS NULL (the first, the other), CAST (unlike LANES),");
        Scene.faulted("the first", x -> x.copy(3, 0, 2, 0, 1), 1);
        Scene.faulted("the other", x -> x.copy(2, 0, 3, 0, 1), 1);
        Scene.faulted("both", x -> x.copy(3, 0, 3, 0, 0), 1);
        for (int k = 0; k <= 2; k++) {
            int from = k;
            Scene.faulted("from lane " + k, x -> x.copy(from, 0, (from + 1) % 3, 0, 1), 2);
            Scene.faulted("to lane " + k, x -> x.copy((from + 1) % 3, 0, from, 0, 0), 2);
        }
        DocumentText.promise(24, "INDEX: i, j, n below 0 or beyond.");
        int[][] wrong = {{-1, 0, 1}, {0, -1, 1}, {0, 0, -1}, {5, 0, 1}, {0, 5, 1}, {1, 0, 5}, {0, 1, 5}, {0, 0, 6},
            {6, 0, 0}, {0, 6, 0}, {5, 5, -1}, {Scene.MAX, 0, 1}, {0, Scene.MAX, 1}, {1, 1, Scene.MAX}, {Scene.MIN, 0, 1},
            {0, Scene.MIN, 1}, {0, 0, Scene.MIN}, {Scene.MAX, Scene.MAX, Scene.MAX}, {Scene.MIN, Scene.MIN, Scene.MIN}};
        for (int[] w : wrong) {
            Scene.faulted(w[0] + ", " + w[1] + ", " + w[2], x -> x.copy(2, w[0], 2, w[1], w[2]), 3);
        }
        Scene.faulted("the other is too short", SheetEdges::shortOther, x -> x.copy(2, 0, 3, 0, 3), 3);
        Scene.faulted("the first is too short", SheetEdges::shortOther, x -> x.copy(3, 0, 2, 0, 3), 3);
        DocumentText.due("both are long enough", shortOther().copy(2, 3, 3, 0, 2), 2);
    }

    private static ToppleYard shortOther() {
        ToppleYard x = Scene.inUse();
        Check.row(x, 3, 2, 4, 4);
        return x;
    }

    private static void tell() {
        DocumentText.promise(25, "TELLING of a PLACE.");
        int[] wants = {1, 101, 114};
        int[][] bodies = {{3, 2, 1, 1, 4, 1}, {3, 2, 1, 1, 4, 2, 1}, {3, 2, 1, 1, 4, 3, 2, 1, 1}};
        for (int p = 0; p < 3; p++) {
            ToppleYard x = Scene.inUse();
            DocumentText.due("place " + p, x.tell(p), wants[p]);
            DocumentText.due("trace goes on", x.trace(), traceOf(bodies[p]));
            DocumentText.due("names no fault", x.fault(), 4);
        }
        DocumentText.due("999", Scene.full().tell(0), 999);
        DocumentText.promise(25, "UNKNOWN.");
        for (int p : Scene.NO_PLACES) {
            Scene.refused("place " + p, x -> x.tell(p), Scene.UNKNOWN);
        }
        Scene.refused("no yard", Scene::noYard, x -> x.tell(0), Scene.UNKNOWN);
    }

    private static void strike() {
        DocumentText.promise(26, "How it is STRUCK.");
        int[] wants = {0, 1, 60};
        for (int p = 0; p < 3; p++) {
            ToppleYard x = Scene.inUse();
            DocumentText.due("place " + p, x.strike(p), wants[p]);
            DocumentText.due("trace goes on", x.trace(), traceOf(3, 2, 1, 1, 4, p == 2 ? 5 : 4));
            DocumentText.due("names no fault", x.fault(), 4);
        }
        DocumentText.promise(26, "UNKNOWN.");
        for (int p : Scene.NO_PLACES) {
            Scene.refused("place " + p, x -> x.strike(p), Scene.UNKNOWN);
        }
        Scene.refused("no yard", Scene::noYard, x -> x.strike(0), Scene.UNKNOWN);
    }

    private static void as() {
        DocumentText.promise(27, "A PLACE, taken as one of a kind: 1.");
        for (int p = 0; p < 3; p++) {
            for (int kind = 0; kind <= p; kind++) {
                int place = p;
                int asked = kind;
                Scene.leavesAll("place " + p + " as " + kind, Scene::inUse, x -> x.as(place, asked), 1, 0);
            }
        }
        DocumentText.promise(27, "UNKNOWN; OUTSIDE;");
        for (int p : Scene.NO_PLACES) {
            Scene.refusedNaming("place " + p, x -> x.as(p, 0), Scene.UNKNOWN);
        }
        for (int kind : new int[] {-1, 3, Scene.MIN, Scene.MAX}) {
            for (int p = 0; p < 3; p++) {
                int place = p;
                Scene.refusedNaming("kind " + kind, x -> x.as(place, kind), Scene.OUTSIDE);
            }
        }
        Scene.refusedNaming("no yard", Scene::noYard, x -> x.as(0, 0), Scene.UNKNOWN);
        DocumentText.promise(27, "CAST: it is none (each is a PLAIN one, too; a DOUBLE one is a BROAD one).");
        Scene.faulted("a plain one as a broad one", x -> x.as(0, 1), 2);
        Scene.faulted("a plain one as a double one", x -> x.as(0, 2), 2);
        Scene.faulted("a broad one as a double one", x -> x.as(1, 2), 2);
    }

    private static void trace() {
        DocumentText.promise(28, "TRACE.");
        DocumentText.due("new", new ToppleYard().trace(), 0);
        Scene.leavesAll("in use", Scene::inUse, x -> x.trace(), traceOf(3, 2, 1, 1, 4), Scene.SIZE);
        ToppleYard x = Check.withYard(Scene.MIXED);
        boolean below = false;
        int want = 0;
        for (int t = 0; t < 20; t++) {
            x.tell(2);
            want = (((want * 31 + 3) * 31 + 2) * 31 + 1) * 31 + 1;
            DocumentText.due("after " + (t + 1), x.trace(), want);
            below |= want < 0;
        }
        DocumentText.dueTrue("it has been below 0", below);
    }

    /** After each call that names faults: a fault, then none, then one that is refused. */
    private static void fault() {
        DocumentText.promise(29, "The FAULT of the latest call that names one: 0: it came to none, or was refused (0 ahead of any).");
        DocumentText.due("ahead of any", new ToppleYard().fault(), 0);
        ToppleYard other = new ToppleYard();
        other.lose(0);
        other.settle();
        other.odds(0);
        DocumentText.due("ahead of any that names one", other.fault(), 0);
        dueFaults("yard", x -> x.yard(3, 0, 0, 0), 1, x -> x.yard(1, 1, 0, 3), x -> x.yard(4, 0, 0, 0));
        dueFaults("yard, taken", x -> x.yard(0, 0, 0, -1), 4, x -> x.yard(0, 0, 0, 17), x -> x.yard(0, 3, 0, 0));
        dueFaults("day", x -> x.day(2, 1, 0, 0, 0), 2, x -> x.day(2, 2, 0, 0, 0), x -> x.day(2, 2, 3, 1, 0));
        dueFaults("day, wrong", x -> x.day(2, 2, 6, 0, 0), 3, x -> x.day(2, 2, 3, 0, 0), x -> x.day(2, 2, 0, 0, 5));
        dueFaults("alike", x -> x.alike(2, 2, 3), 3, x -> x.alike(2, 2, 0), x -> x.alike(1, 1, 0));
        dueFaults("sheet", x -> x.sheet(0, 0, -1), 4, x -> x.sheet(0, 0, 0), x -> x.sheet(0, 0, 61));
        dueFaults("put", x -> x.put(1, 3, 0), 3, x -> x.put(1, 2, 0), x -> x.put(4, 0, 0));
        dueFaults("cell", x -> x.cell(1, 0, 2), 2, x -> x.cell(1, 0, 1), x -> x.cell(1, 0, 3));
        dueFaults("copy", x -> x.copy(1, 0, 2, 0, 1), 2, x -> x.copy(1, 0, 1, 1, 2), x -> x.copy(1, 0, 4, 0, 1));
        dueFaults("as", x -> x.as(1, 2), 2, x -> x.as(1, 1), x -> x.as(1, 3));
        Scene.leavesAll("asked twice", Scene::inUse, x -> x.fault() * 10 + x.fault(), 44, 4);
    }

    private static void dueFaults(String name, ToLongFunction<ToppleYard> faulted, int fault, ToLongFunction<ToppleYard> answered,
            ToLongFunction<ToppleYard> refused) {
        ToppleYard x = Scene.inUse();
        answered.applyAsLong(x);
        DocumentText.due(name + ", it came to none", x.fault(), 0);
        faulted.applyAsLong(x);
        DocumentText.due(name + ", its fault", x.fault(), fault);
        callOthers(x);
        DocumentText.due(name + ", others name none", x.fault(), fault);
        answered.applyAsLong(x);
        DocumentText.due(name + ", it came to none", x.fault(), 0);
        faulted.applyAsLong(x);
        refused.applyAsLong(x);
        DocumentText.due(name + ", it was refused", x.fault(), 0);
        faulted.applyAsLong(x);
        DocumentText.due(name + ", its fault again", x.fault(), fault);
    }

    /** Calls that name no faults, answered and refused ones. */
    private static void callOthers(ToppleYard x) {
        for (int wrong = 0; wrong <= 1; wrong++) {
            x.ofPlace(9 * wrong, 0);
            x.paths(9 * wrong, 1);
            x.heap(9 * wrong, 1);
            x.drop(9 * wrong, 1);
            x.topple(9 * wrong);
            x.settle();
            x.spill(9 * wrong, 0);
            x.again(9 * wrong, 0);
            x.burnt();
            x.trees();
            x.reading(9 * wrong, 0);
            x.back(9 * wrong);
            x.kinds(9 * wrong);
            x.heapings(9 * wrong);
            x.odds(9 * wrong);
            x.lose(3 + wrong);
            x.tell(9 * wrong);
            x.strike(9 * wrong);
            x.trace();
            x.many(9 * wrong);
        }
    }

    private static void many() {
        DocumentText.promise(30, "How many: 0 PLACES, 1 all HEAPS together, 2 grains that have FALLEN, 3 TOPPLINGS"
                + " (both by topple(), settle()), 4 READINGS (0 all without a YARD).");
        int[] wants = {3, 9, 1, 2, 2};
        for (int what = 0; what <= 4; what++) {
            int asked = what;
            Scene.leavesAll("many " + what, Scene::inUse, x -> x.many(asked), wants[what], Scene.SIZE);
            Scene.leavesAll("many " + what + " without a yard", Scene::noYard, x -> x.many(asked), 0, Scene.SIZE);
        }
        ToppleYard x = Scene.inUse();
        x.drop(2, 1);
        x.settle();
        int[] then = {3, 8, 3, 4, 2};
        for (int what = 0; what <= 4; what++) {
            DocumentText.due("settled, many " + what, x.many(what), then[what]);
        }
        x.spill(2, 0);
        x.again(2, 0);
        x.day(2, 2, 0, 2, 0);
        x.kinds(0);
        x.heapings(0);
        DocumentText.due("fallen by those two alone", x.many(2), 3);
        DocumentText.due("toppled by those two alone", x.many(3), 4);
        DocumentText.due("999 and none", Scene.full().many(1), 999);
        DocumentText.promise(30, "OUTSIDE.");
        for (int what : new int[] {-1, 5, Scene.MIN, Scene.MAX}) {
            Scene.refused("what " + what, y -> y.many(what), Scene.OUTSIDE);
            Scene.refused("what " + what, Scene::noYard, y -> y.many(what), Scene.OUTSIDE);
        }
    }
}
