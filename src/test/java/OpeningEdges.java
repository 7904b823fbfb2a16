import java.io.IOException;
import java.io.UncheckedIOException;
import java.nio.file.Files;
import java.nio.file.Path;
import java.util.ArrayList;
import java.util.List;
import java.util.function.ToLongFunction;

/** What the document says ahead of its terms and promises: what it is, the public face, its parts; the promises' heads. */
final class OpeningEdges {
    private static final String SOURCE = "src/main/java/ToppleYard.java";
    private static final String CLASS_LINE = "public final class ToppleYard {";

    private static final String[] CONSTANT_LINES = {
        "public static final int UNKNOWN = -1, OUTSIDE = -2, STATE = -3, FULL = -4, NONE = -9;",
        "public static final long LOST = Long.MIN_VALUE;",
    };
    /** In the order of the promises. */
    private static final String[] CALLS = {
        "ToppleYard()", "int yard(int sheet, int lane, int i, int n)", "int ofPlace(int p, int what)",
        "int paths(int a, int b)", "int heap(int p, int v)", "int drop(int p, int n)", "int topple(int p)", "int settle()",
        "int day(int sheet, int lane, int i, int n, int what)", "int spill(int p, int what)", "int again(int p, int what)",
        "int burnt()", "long trees()", "int alike(int sheet, int lane, int i)", "int reading(int p, int topplings)",
        "int back(int n)", "int kinds(int p)", "int heapings(int p)", "long odds(int which)",
        "int sheet(int k, int lane, int n)", "int lose(int k)", "int put(int k, int i, int v)",
        "long cell(int k, int i, int lane)", "int copy(int k, int i, int other, int j, int n)", "int tell(int p)",
        "int strike(int p)", "int as(int p, int kind)", "int trace()", "int fault()", "int many(int what)",
    };
    private static final String[] PARTS = {
        "---- 1 the yard", "---- 2 grains", "---- 3 what comes of it", "---- 4 what was set off", "---- 5 sheets, parts",
    };
    /** Behind the last promise of each part. */
    private static final int[] PART_ENDS = {1, 5, 9, 14, 19, 30};

    private OpeningEdges() {
    }

    static void all() {
        title();
        heapsThatTopple();
        grainsAndDays();
        whatComesOfIt();
        whatWasSetOff();
        lastOf512Calls();
        twoBesideOneAnother();
        face();
        parts();
        heads();
    }

    private static void title() {
        DocumentText.opening(DocumentText.TITLE, "# ToppleYard");
        DocumentText.dueTrue("the name, without a package", ToppleYard.class.getName().equals("ToppleYard"));
    }

    private static void says(String clause) {
        DocumentText.opening(DocumentText.WHAT_IT_IS, clause);
    }

    /** Place 0: 1 path to place 1, 1 to the pit; it bears 2. Place 1: 1 path; a broad one, it bears 2. */
    private static ToppleYard two() {
        return Check.withYard("y21;p11;b01");
    }

    private static void heapsThatTopple() {
        says("Heaps that topple: a yard of places with paths between them and down to a pit, on each a heap of grains,"
                + " that stands till there are as many as it bears, and then gives one along each path;");
        ToppleYard x = two();
        DocumentText.due("places", x.many(0), 2);
        DocumentText.due("between them", x.paths(0, 1), 1);
        DocumentText.due("down to a pit", x.ofPlace(0, 1), 1);
        DocumentText.due("on each a heap", x.ofPlace(0, 2) * 10 + x.ofPlace(1, 2), 11);
        DocumentText.due("it stands", x.topple(0), Scene.STATE);
        DocumentText.due("as many as it bears", x.drop(0, 1), x.ofPlace(0, 4));
        DocumentText.due("one to the pit", x.topple(0), 1);
        DocumentText.due("one to the other", x.ofPlace(0, 2) * 10 + x.ofPlace(1, 2), 2);
        says("places of kinds, told in a text;");
        ToppleYard mixed = Check.withYard(Scene.MIXED);
        for (int p = 0; p < 3; p++) {
            DocumentText.due("kind of " + p, mixed.ofPlace(p, 0), p);
        }
    }

    private static void grainsAndDays() {
        says("grains dropped, heaps that topple, one by one or till all are settled, whichever goes first;");
        ToppleYard first = two();
        ToppleYard second = two();
        ToppleYard all = two();
        for (ToppleYard x : new ToppleYard[] {first, second, all}) {
            x.drop(0, 1);
            x.drop(1, 1);
        }
        // Heaps 2, 2, then 0, 3 and 1, 2 and 2, 1 and 0, 2 and 1, 1.
        for (int p : new int[] {0, 1, 1, 0, 1}) {
            DocumentText.dueTrue("one by one, 0 first: " + p, first.topple(p) >= 0);
        }
        // Heaps 2, 2, then 3, 1 and 1, 2 and 2, 1 and 0, 2 and 1, 1.
        for (int p : new int[] {1, 0, 1, 0, 1}) {
            DocumentText.dueTrue("one by one, 1 first: " + p, second.topple(p) >= 0);
        }
        DocumentText.due("till all are settled", all.settle(), 5);
        DocumentText.due("1 and 1 then", all.ofPlace(0, 2) * 10 + all.ofPlace(1, 2), 11);
        DocumentText.dueTrue("the same, 0 first", Scene.seen(first).equals(Scene.seen(all)));
        DocumentText.dueTrue("the same, 1 first", Scene.seen(second).equals(Scene.seen(all)));
        says("days that are told, the first act that can't be;");
        ToppleYard day = two();
        Check.row(day, 1, 0, 0, 0, 0, 1, 0, 1);
        DocumentText.due("two acts", day.day(1, 0, 0, 2, 1), Scene.NONE);
        DocumentText.due("the third can't be", day.day(1, 0, 0, 3, 1), 2);
    }

    private static void whatComesOfIt() {
        // A grain on place 0: it topples, place 1 has 2 and topples: 1 comes back to place 0, which has 1 then.
        says("what one grain sets off, how many fall, how long till heaps come back as one drops on;");
        ToppleYard x = two();
        DocumentText.due("sets off", x.spill(0, 0), 2);
        DocumentText.due("both", x.spill(0, 2), 3);
        DocumentText.due("one falls", x.spill(0, 1), 1);
        DocumentText.due("they come back", x.again(0, 0), 0);
        DocumentText.due("by 1", x.again(0, 1), 1);
        says("fire that comes up from the pit;");
        DocumentText.due("both burn", x.burnt(), 3);
        x.heap(0, 0);
        DocumentText.due("place 0 has too little, so none burns", x.burnt(), 0);
        says("in how many ways paths make a tree that leads all to the pit;");
        DocumentText.due("one", x.trees(), 1);
        DocumentText.due("a ring of three paths", Check.withYard("y21;p10;p10").trees(), 3);
        says("which heaps differ by topplings alone;");
        ToppleYard ring = Check.withYard("y21;p10;p10");
        Check.row(ring, 1, 0, 2, 2, 3, 0, 1, 0);
        DocumentText.due("2, 2: both topple twice, backwards", ring.alike(1, 0, 0), 1);
        DocumentText.due("3, 0: 2 and 1 backwards", ring.alike(1, 0, 2), 1);
        DocumentText.due("1, 0: thirds", ring.alike(1, 0, 4), 0);
    }

    private static void whatWasSetOff() {
        says("of which kind a place is, how high a heap was, by what a grain set off;");
        ToppleYard x = Check.withYard("y20;p21;p10");
        x.reading(0, 1);
        DocumentText.due("a plain one, which bears 2", x.kinds(0), 1);
        DocumentText.due("1 or 2 high", x.heapings(0), 6);
        says("odds that one sets off anything.");
        DocumentText.due("both places", x.odds(0) * 10 + x.odds(1), 11);
        x.heap(0, 0);
        DocumentText.due("one of two", x.odds(0) * 10 + x.odds(1), 12);
    }

    /** 13 calls for the yard, 249 times two: 511. Heaps 0, 0; place 0 has toppled 249 times. */
    private static ToppleYard after511Calls() {
        ToppleYard x = Check.withYard("y20;p10;b10");
        for (int t = 0; t < 249; t++) {
            x.drop(0, 1);
            x.settle();
        }
        return x;
    }

    private static void dueLast(String call, ToLongFunction<ToppleYard> last, long want) {
        DocumentText.due("the 512th, " + call, last.applyAsLong(after511Calls()), want);
    }

    private static void lastOf512Calls() {
        says("An object is used for at most 512 calls after it has been made; what later calls answer is free.");
        dueLast("yard", x -> x.yard(0, 0, 0, 11), 2);
        dueLast("ofPlace", x -> x.ofPlace(0, 5), 249);
        dueLast("paths", x -> x.paths(0, 1), 0);
        dueLast("heap", x -> x.heap(1, 5), 0);
        dueLast("drop", x -> x.drop(1, 99), 99);
        dueLast("topple", x -> x.topple(0), Scene.STATE);
        dueLast("settle", x -> x.settle(), 0);
        dueLast("day", x -> x.day(0, 0, 0, 0, 1), Scene.NONE);
        dueLast("spill", x -> x.spill(0, 0), 1);
        dueLast("again", x -> x.again(0, 1), 1);
        dueLast("burnt", x -> x.burnt(), 1);
        dueLast("trees", x -> x.trees(), 1);
        dueLast("alike", x -> x.alike(0, 0, 0), 1);
        dueLast("reading", x -> x.reading(0, 1), 0);
        dueLast("back", x -> x.back(0), 0);
        dueLast("kinds", x -> x.kinds(0), 7);
        dueLast("heapings", x -> x.heapings(1), 0xFFFFF);
        dueLast("odds", x -> x.odds(1), 2);
        dueLast("sheet", x -> x.sheet(3, 2, 60), 1);
        dueLast("lose", x -> x.lose(0), 1);
        dueLast("put", x -> x.put(0, 10, 300), 1);
        dueLast("cell", x -> x.cell(0, 1, 0), '2');
        dueLast("copy", x -> x.copy(0, 0, 0, 1, 10), 10);
        dueLast("tell", x -> x.tell(1), 100);
        dueLast("strike", x -> x.strike(1), 1);
        dueLast("as", x -> x.as(1, 2), -12);
        dueLast("trace", x -> x.trace(), 0);
        dueLast("fault", x -> x.fault(), 0);
        dueLast("many", x -> x.many(2), 249);
    }

    /** Objects have nothing in common: what one does leaves the other as it was. */
    private static void twoBesideOneAnother() {
        ToppleYard old = Scene.inUse();
        ToppleYard other = new ToppleYard();
        DocumentText.promise(1, "No YARD (no PLACES), SHEETS have nothing.");
        DocumentText.due("a new one beside one in use", other.many(0) + other.many(4) + other.trace() + other.fault(), 0);
        for (int k = 0; k <= 3; k++) {
            DocumentText.due("a new one beside one in use, sheet " + k, other.lose(k), 0);
        }
        Check.yardOf(other, "y50123012301;p10;b11;d22;p33;b09");
        other.drop(0, 99);
        other.settle();
        other.reading(4, 9);
        other.tell(2);
        other.sheet(2, 0, 3);
        other.lose(1);
        DocumentText.due("the fault of its own", old.fault(), Scene.SIZE);
        DocumentText.dueTrue("the one in use", Scene.seen(old).equals(Scene.seen(Scene.inUse())));
    }

    private static List<String> sourceLines() {
        try {
            List<String> lines = new ArrayList<>();
            for (String line : Files.readAllLines(Path.of(SOURCE))) {
                lines.add(line.trim());
            }
            return lines;
        } catch (IOException e) {
            throw new UncheckedIOException(e);
        }
    }

    /** The lines of the face, with the parameters' names, are those of the source, and it has no other. */
    private static void face() {
        List<String> want = new ArrayList<>();
        DocumentText.opening(DocumentText.FACE, CLASS_LINE);
        want.add(CLASS_LINE);
        for (String line : CONSTANT_LINES) {
            DocumentText.opening(DocumentText.FACE, line);
            want.add(line);
        }
        for (String call : CALLS) {
            DocumentText.opening(DocumentText.FACE, "public " + call + ";");
            want.add("public " + call + " {");
        }
        DocumentText.opening(DocumentText.FACE, " }");
        List<String> got = new ArrayList<>();
        for (String line : sourceLines()) {
            if (line.startsWith("public ")) {
                got.add(line);
            }
        }
        DocumentText.dueTrue("the face is " + got, got.equals(want));
        DocumentText.due("UNKNOWN", ToppleYard.UNKNOWN, -1);
        DocumentText.due("OUTSIDE", ToppleYard.OUTSIDE, -2);
        DocumentText.due("STATE", ToppleYard.STATE, -3);
        DocumentText.due("FULL", ToppleYard.FULL, -4);
        DocumentText.due("NONE", ToppleYard.NONE, -9);
        DocumentText.due("LOST", ToppleYard.LOST, Long.MIN_VALUE);
    }

    private static String nameOf(String call) {
        return call.substring(call.indexOf(' ') + 1, call.indexOf('('));
    }

    /** The source says the same ahead of the same calls. */
    private static void parts() {
        List<String> want = new ArrayList<>();
        for (int part = 0; part < PARTS.length; part++) {
            want.add("// " + PARTS[part]);
            StringBuilder names = new StringBuilder();
            for (int c = PART_ENDS[part]; c < PART_ENDS[part + 1]; c++) {
                names.append(names.length() == 0 ? "`" : ", `").append(nameOf(CALLS[c])).append('`');
                want.add("public " + CALLS[c] + " {");
            }
            DocumentText.opening(DocumentText.INTERFACE, "Ahead of the calls " + names + " the interface says: " + PARTS[part] + ".");
        }
        List<String> got = new ArrayList<>();
        for (String line : sourceLines()) {
            if (line.startsWith("// ----") || !got.isEmpty() && line.startsWith("public ")) {
                got.add(line);
            }
        }
        DocumentText.dueTrue("the parts are " + got, got.equals(want));
    }

    private static void heads() {
        DocumentText.head(1, "A new object `ToppleYard()`");
        for (int c = 1; c < CALLS.length; c++) {
            DocumentText.head(c + 1, nameOf(CALLS[c]) + " `" + CALLS[c] + "`");
        }
        DocumentText.due("promises", CALLS.length, 30);
    }
}
