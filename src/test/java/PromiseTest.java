/** Each promise of the document by hand: ordinary calls, the edges that it names, wrong calls. */
public final class PromiseTest {
    private static final int UNKNOWN = -1, OUTSIDE = -2, STATE = -3, FULL = -4, NONE = -9;
    private static final int NULL = -11, CAST = -12, INDEX = -13, SIZE = -14;
    private static final long LOST = Long.MIN_VALUE;
    private static final int MAX = Integer.MAX_VALUE, MIN = Integer.MIN_VALUE;

    /** Three places, each joined with each other and with the pit; 3 paths from each. */
    private static final String TRIANGLE = "y3111;p10;p10;p10";
    /** Place 0 plain, 3 paths; place 1 broad, 2 paths, bears 3; place 2 double, 4 paths, bears 8. */
    private static final String MIXED = "y3120;p01;b12;d25";
    /** Two plain places with 3 paths between them and 1 from each to the pit. */
    private static final String TWO = "y23;p10;p10";

    private static String part = "";

    private static void due(String call, long got, long want) {
        Check.due(part + ": " + call, got, want);
    }

    private static ToppleYard yard(String text) {
        return Check.withYard(text);
    }

    private static void heaps(ToppleYard x, int... heaps) {
        for (int p = 0; p < heaps.length; p++) {
            x.heap(p, heaps[p]);
        }
    }

    private static void dueHeaps(String call, ToppleYard x, int... heaps) {
        for (int p = 0; p < heaps.length; p++) {
            due(call + ", heap " + p, x.ofPlace(p, 2), heaps[p]);
        }
    }

    public static void main(String[] args) {
        part = "constants";
        constants();
        part = "1 new";
        newObject();
        part = "2 yard";
        yardTexts();
        yardFaults();
        yardShut();
        yardAnew();
        part = "3 ofPlace";
        ofPlace();
        part = "4 paths";
        paths();
        part = "5 heap";
        heap();
        part = "6 drop";
        drop();
        part = "7 topple";
        topple();
        part = "8 settle";
        settle();
        part = "9 day";
        dayActs();
        dayWrong();
        dayRefusals();
        part = "10 spill";
        spill();
        part = "11 again";
        again();
        part = "12 burnt";
        burnt();
        part = "13 trees";
        trees();
        part = "14 alike";
        alike();
        alikeRefusals();
        part = "15 reading, 16 back";
        readings();
        part = "17 kinds";
        kinds();
        part = "18 heapings";
        heapings();
        part = "19 odds";
        odds();
        part = "20 sheet";
        sheet();
        part = "21 lose";
        lose();
        part = "22 put";
        put();
        part = "23 cell";
        cell();
        part = "24 copy";
        copy();
        copyFaults();
        part = "25 tell";
        tell();
        part = "26 strike";
        strike();
        part = "27 as";
        as();
        part = "28 trace";
        trace();
        part = "29 fault";
        fault();
        part = "30 many";
        many();
        Check.end("PromiseTest");
    }

    private static void constants() {
        due("UNKNOWN", ToppleYard.UNKNOWN, -1);
        due("OUTSIDE", ToppleYard.OUTSIDE, -2);
        due("STATE", ToppleYard.STATE, -3);
        due("FULL", ToppleYard.FULL, -4);
        due("NONE", ToppleYard.NONE, -9);
        due("LOST", ToppleYard.LOST, Long.MIN_VALUE);
    }

    private static void newObject() {
        ToppleYard x = new ToppleYard();
        due("fault", x.fault(), 0);
        due("trace", x.trace(), 0);
        for (int what = 0; what <= 4; what++) {
            due("many " + what, x.many(what), 0);
        }
        for (int k = 0; k <= 3; k++) {
            due("lose " + k, x.lose(k), 0);
            for (int lane = 0; lane <= 2; lane++) {
                due("cell " + k, x.cell(k, 0, lane), LOST);
                due("fault", x.fault(), 1);
            }
        }
        due("ofPlace", x.ofPlace(0, 0), UNKNOWN);
        due("settle", x.settle(), STATE);
    }

    private static void yardTexts() {
        ToppleYard x = new ToppleYard();
        due("two", Check.yardOf(x, "y21;p13;b02"), 2);
        due("five", Check.yardOf(x, "y50123012301;p00;b11;d22;p33;b09"), 5);
        due("nothing", Check.yardOf(x, ""), -100);
        due("x", Check.yardOf(x, "x21;p13;b02"), -100);
        due("y", Check.yardOf(x, "y"), -101);
        due("y1", Check.yardOf(x, "y1;p13"), -101);
        due("y6", Check.yardOf(x, "y6"), -101);
        due("y;", Check.yardOf(x, "y;"), -101);
        due("y2", Check.yardOf(x, "y2"), -102);
        due("y24", Check.yardOf(x, "y24;p13;b02"), -102);
        due("y2/", Check.yardOf(x, "y2/;p13;b02"), -102);
        due("y3 with two paths", Check.yardOf(x, "y311;p13;b02"), -104);
        due("y2 with two paths", Check.yardOf(x, "y211;p13;b02"), -103);
        due("colon", Check.yardOf(x, "y21:p13;b02"), -103);
        due("letter a", Check.yardOf(x, "y21;a13;b02"), -104);
        due("letter c", Check.yardOf(x, "y21;c13;b02"), -104);
        due("letter e", Check.yardOf(x, "y21;e13;b02"), -104);
        due("letter o", Check.yardOf(x, "y21;o13;b02"), -104);
        due("letter q", Check.yardOf(x, "y21;q13;b02"), -104);
        due("letter P", Check.yardOf(x, "y21;P13;b02"), -104);
        due("pit 4", Check.yardOf(x, "y21;p43;b02"), -105);
        due("heap :", Check.yardOf(x, "y21;p1:;b02"), -106);
        due("heap /", Check.yardOf(x, "y21;p1/;b02"), -106);
        due("too soon", Check.yardOf(x, "y21;p13;b0"), -110);
        due("ends at letter", Check.yardOf(x, "y21;p13;"), -108);
        due("second letter", Check.yardOf(x, "y21;p13;x02"), -108);
        due("behind", Check.yardOf(x, "y21;p13;b02;"), -111);
        due("far behind", Check.yardOf(x, "y21;p13;b02;p00"), -111);
        due("heaps to 9", Check.yardOf(x, "y23;d39;d39"), 2);
        due("heap 9", x.ofPlace(1, 2), 9);
        due("all lanes", Check.yardOf(x, TRIANGLE, 3, 1, 0), 3);
        due("from 7 on", Check.yardOf(x, TRIANGLE, 2, 2, 7), 3);
        due("first fault from 7 on", Check.yardOf(x, "y2x", 2, 2, 7), -102);
        Check.row(x, 1, 2, 'y', 50, 49, ';', 256 + 'p', '1', '1', ';', 'p', '1', '1');
        due("a code beyond a byte", x.yard(1, 2, 0, 11), -104);
    }

    private static void yardFaults() {
        ToppleYard x = new ToppleYard();
        for (int k : new int[] {-1, 4, MIN, MAX}) {
            due("sheet " + k, x.yard(k, 9, -1, -1), UNKNOWN);
        }
        for (int lane : new int[] {-1, 3, MIN, MAX}) {
            due("lane " + lane, x.yard(0, lane, -1, -1), OUTSIDE);
        }
        due("nothing", x.yard(0, 0, -1, -1), NULL);
        due("fault", x.fault(), 1);
        x.sheet(0, 1, 3);
        due("other lane", x.yard(0, 0, -1, -1), CAST);
        due("fault", x.fault(), 2);
        due("n -1", x.yard(0, 1, -1, -1), SIZE);
        due("fault", x.fault(), 4);
        due("n least", x.yard(0, 1, 0, MIN), SIZE);
        due("i -1", x.yard(0, 1, -1, 1), INDEX);
        due("fault", x.fault(), 3);
        due("i -1, none taken", x.yard(0, 1, -1, 0), INDEX);
        due("i 4, none taken", x.yard(0, 1, 4, 0), INDEX);
        due("one too many", x.yard(0, 1, 1, 3), INDEX);
        due("wraps", x.yard(0, 1, 1, MAX), INDEX);
        due("wraps", x.yard(0, 1, MAX, MAX), INDEX);
        due("i least", x.yard(0, 1, MIN, 0), INDEX);
        due("i 3, none taken", x.yard(0, 1, 3, 0), -100);
        due("a first fault is no fault", x.fault(), 0);
        due("all three", x.yard(0, 1, 0, 3), -100);
        due("still no yard", x.many(0), 0);
    }

    private static void yardShut() {
        ToppleYard x = new ToppleYard();
        due("all shut", Check.yardOf(x, "y23;p00;p00"), -200);
        due("place 1 alone", Check.yardOf(x, "y20;p10;p00"), -201);
        due("place 0 alone", Check.yardOf(x, "y20;p00;p10"), -200);
        due("two together", Check.yardOf(x, "y4000001;p10;p10;p00;p00"), -202);
        due("fault", x.fault(), 0);
        due("first fault goes first", Check.yardOf(x, "y20;p00;p00;"), -111);
        // 0 - 2 - 4 - 1 - 3 - pit
        due("a long way", Check.yardOf(x, "y50100011010;p00;p00;p00;p10;p00"), 5);
        due("a long way cut", Check.yardOf(x, "y50100010010;p00;p00;p00;p10;p00"), -200);
        due("the old one stays", x.many(0), 5);
    }

    private static void yardAnew() {
        ToppleYard x = yard(TRIANGLE);
        heaps(x, 3, 0, 0);
        x.topple(0);
        x.reading(0, 1);
        x.tell(0);
        due("not taken", Check.yardOf(x, "y20;p00;p00"), -200);
        due("not taken", Check.yardOf(x, "y50"), -103);
        due("places", x.many(0), 3);
        due("heaps", x.many(1), 2);
        due("fallen", x.many(2), 1);
        due("topplings", x.many(3), 1);
        due("readings", x.many(4), 1);
        due("of place 0", x.ofPlace(0, 5), 1);
        due("kind", x.ofPlace(0, 0), 0);
        due("paths", x.paths(0, 1), 1);
        due("taken", Check.yardOf(x, "y20;b17;d18"), 2);
        due("places", x.many(0), 2);
        due("heaps", x.many(1), 15);
        due("fallen", x.many(2), 0);
        due("topplings", x.many(3), 0);
        due("readings", x.many(4), 0);
        due("of place 0", x.ofPlace(0, 5), 0);
        due("paths", x.paths(0, 1), 0);
        due("trace stays", x.trace(), 1);
        due("taken once more", Check.yardOf(x, TRIANGLE), 3);
        due("nothing of an older one", x.many(3) + x.many(2) + x.ofPlace(0, 5), 0);
    }

    private static void ofPlace() {
        ToppleYard x = yard(MIXED);
        int[][] all = {{0, 0, 1, 3, 3, 0}, {1, 1, 2, 2, 3, 0}, {2, 2, 5, 4, 8, 0}};
        for (int p = 0; p < 3; p++) {
            for (int what = 0; what <= 5; what++) {
                due(p + ", " + what, x.ofPlace(p, what), all[p][what]);
            }
            due("6", x.ofPlace(p, 6), OUTSIDE);
            due("-1", x.ofPlace(p, -1), OUTSIDE);
            due("most", x.ofPlace(p, MAX), OUTSIDE);
        }
        for (int p : new int[] {-1, 3, 4, 5, MIN, MAX}) {
            due("place " + p, x.ofPlace(p, 0), UNKNOWN);
            due("place " + p + " and wrong", x.ofPlace(p, 9), UNKNOWN);
        }
        heaps(x, 3, 2, 0);
        x.topple(0);
        due("toppled by topple", x.ofPlace(0, 5), 1);
        due("another", x.ofPlace(1, 5), 0);
        x.settle();
        due("toppled by settle", x.ofPlace(1, 5), 1);
        x.spill(0, 0);
        x.again(0, 0);
        due("not by others", x.ofPlace(1, 5), 1);
        x.heap(1, 0);
        due("a heap told leaves it", x.ofPlace(1, 5), 1);
    }

    private static void paths() {
        ToppleYard x = yard("y50123012301;p00;b11;d22;p33;b09");
        int[][] all = {{-1, 0, 1, 2, 3}, {0, -1, 0, 1, 2}, {1, 0, -1, 3, 0}, {2, 1, 3, -1, 1}, {3, 2, 0, 1, -1}};
        for (int a = 0; a < 5; a++) {
            for (int b = 0; b < 5; b++) {
                due(a + ", " + b, x.paths(a, b), all[a][b]);
            }
            for (int b : new int[] {-1, 5, MIN, MAX}) {
                due(a + ", " + b, x.paths(a, b), UNKNOWN);
                due(b + ", " + a, x.paths(b, a), UNKNOWN);
            }
        }
        ToppleYard two = yard(TWO);
        due("two", two.paths(1, 0), 3);
        due("two", two.paths(0, 2), UNKNOWN);
        due("two", two.paths(2, 1), UNKNOWN);
    }

    private static void heap() {
        ToppleYard x = yard(MIXED);
        due("was 1", x.heap(0, 99), 1);
        due("was 99", x.heap(0, 0), 99);
        due("was 0", x.heap(0, 7), 0);
        due("100", x.heap(0, 100), OUTSIDE);
        due("-1", x.heap(0, -1), OUTSIDE);
        due("least", x.heap(0, MIN), OUTSIDE);
        due("place 3", x.heap(3, 1), UNKNOWN);
        due("place -1", x.heap(-1, 100), UNKNOWN);
        dueHeaps("unchanged", x, 7, 2, 5);
    }

    private static void drop() {
        ToppleYard x = yard(MIXED);
        due("1", x.drop(0, 1), 2);
        due("99", x.drop(1, 99), 101);
        due("0", x.drop(0, 0), OUTSIDE);
        due("100", x.drop(0, 100), OUTSIDE);
        due("-1", x.drop(0, -1), OUTSIDE);
        due("least", x.drop(0, MIN), OUTSIDE);
        due("place 3", x.drop(3, 0), UNKNOWN);
        due("place -1", x.drop(-1, 1), UNKNOWN);
        dueHeaps("unchanged", x, 2, 101, 5);
        for (int t = 0; t < 10; t++) {
            x.drop(0, 99);
        }
        due("too many", x.drop(0, 8), FULL);
        due("far too many", x.drop(0, 99), FULL);
        due("wrong goes first", x.drop(0, 100), OUTSIDE);
        due("just as many", x.drop(0, 7), 999);
        due("one more", x.drop(0, 1), FULL);
        due("all", x.many(1), 999 + 101 + 5);
        ToppleYard over = yard(TWO);
        for (int t = 0; t < 10; t++) {
            over.drop(0, 99);
        }
        over.drop(0, 9);
        over.heap(1, 4);
        due("onto a full one", over.topple(1), 1);
        due("above 999", over.ofPlace(0, 2), 1002);
        due("above 999", over.drop(0, 1), FULL);
    }

    private static void topple() {
        ToppleYard x = yard(MIXED);
        due("too low", x.topple(0), STATE);
        x.heap(0, 2);
        due("one too low", x.topple(0), STATE);
        x.heap(0, 3);
        due("plain", x.topple(0), 0);
        dueHeaps("plain", x, 0, 3, 7);
        due("broad", x.topple(1), 1);
        dueHeaps("broad", x, 1, 1, 7);
        due("double at 7", x.topple(2), STATE);
        x.heap(2, 8);
        due("double at 8", x.topple(2), 2);
        dueHeaps("double", x, 3, 1, 4);
        due("double at 4", x.topple(2), STATE);
        due("fallen", x.many(2), 3);
        due("topplings", x.many(3), 3);
        due("place 3", x.topple(3), UNKNOWN);
        due("place -1", x.topple(-1), UNKNOWN);
        x.heap(1, 2);
        due("broad at 2", x.topple(1), STATE);
        x.heap(0, 99);
        due("only once", x.topple(0), 0);
        dueHeaps("only once", x, 96, 3, 6);
    }

    private static void settle() {
        due("no yard", new ToppleYard().settle(), STATE);
        ToppleYard x = yard(TRIANGLE);
        due("settled", x.settle(), 0);
        heaps(x, 3, 2, 2);
        due("three", x.settle(), 3);
        dueHeaps("three", x, 2, 1, 1);
        due("fallen", x.many(2), 3);
        due("topplings", x.many(3), 3);
        heaps(x, 6, 0, 0);
        due("two", x.settle(), 2);
        dueHeaps("two", x, 0, 2, 2);
        due("by place 0", x.ofPlace(0, 5), 3);
        due("fallen", x.many(2), 5);
        due("topplings", x.many(3), 5);
        ToppleYard m = yard("y21;b10;d12");
        // Both have 2 paths; place 0 bears 3, place 1 bears 4.
        heaps(m, 2, 3);
        due("none ready", m.settle(), 0);
        heaps(m, 3, 3);
        due("broad, then double", m.settle(), 2);
        dueHeaps("broad, then double", m, 2, 2);
        heaps(m, 0, 99);
        m.settle();
        dueHeaps("both at rest", m, m.ofPlace(0, 2), m.ofPlace(1, 2));
        due("no grain is lost", m.many(1) + m.many(2), 99 + 2);
    }

    private static void dueDay(String call, ToppleYard x, int[] pairs, int[] whats, int[] wants) {
        Check.row(x, 1, 2, pairs);
        for (int w = 0; w < whats.length; w++) {
            due(call + ", what " + whats[w], x.day(1, 2, 0, pairs.length / 2, whats[w]), wants[w]);
        }
    }

    private static void dayActs() {
        ToppleYard x = yard(TRIANGLE);
        heaps(x, 2, 2, 2);
        x.reading(0, 1);
        int[] whats = {0, 1, 2, 3, 4, 10, 11, 12, 13, 14};
        dueDay("no act", x, new int[] {}, whats, new int[] {6, NONE, 0, 0, 0, 2, 2, 2, NONE, NONE});
        dueDay("drop", x, new int[] {1, 0}, whats, new int[] {7, NONE, 0, 0, 2, 2, 3, 2, NONE, NONE});
        dueDay("drop, topple", x, new int[] {1, 0, 1, 1}, whats,
                new int[] {6, NONE, 1, 1, 5, 3, 0, 3, NONE, NONE});
        dueDay("drop, settle", x, new int[] {1, 0, 0, 2}, whats,
                new int[] {4, NONE, 3, 3, 0, 1, 2, 1, NONE, NONE});
        dueDay("settle, then drop 9", x, new int[] {9, 2}, whats,
                new int[] {15, NONE, 0, 0, 1, 11, 2, 2, NONE, NONE});
        dueDay("settle twice", x, new int[] {4, 2, 0, 2}, whats,
                new int[] {6, NONE, 4, 4, 0, 2, 2, 2, NONE, NONE});
        dueDay("heaps told", x, new int[] {99, 10, 0, 11, 50, 12}, whats,
                new int[] {149, NONE, 0, 0, 5, 99, 0, 50, NONE, NONE});
        due("heaps are as they were", x.many(1), 6);
        due("nothing toppled", x.many(3) + x.many(2) + x.ofPlace(1, 5), 0);
        due("readings are as they were", x.many(4), 1);
        Check.row(x, 2, 0, 7, 7, 7, 0, 0, 1, 0);
        due("from 3 on, bytes", x.day(2, 0, 3, 2, 0), 8);
        due("only the last", x.day(2, 0, 5, 1, 11), 3);
    }

    private static void dayWrong() {
        ToppleYard x = yard(TRIANGLE);
        heaps(x, 2, 2, 2);
        int[] whats = {0, 1, 2, 3, 4, 10, 14};
        dueDay("can't topple", x, new int[] {0, 1}, whats, new int[] {-100, 0, -100, -100, -100, -100, -100});
        dueDay("can't topple then", x, new int[] {0, 0, 0, 1, 0, 1}, whats,
                new int[] {-102, 2, -102, -102, -102, -102, -102});
        dueDay("the first of two", x, new int[] {0, 0, 1, 1, 2, 1}, whats,
                new int[] {-101, 1, -101, -101, -101, -101, -101});
        dueDay("no place 3", x, new int[] {5, 12, 5, 13}, whats, new int[] {-101, 1, -101, -101, -101, -101, -101});
        dueDay("no place 4", x, new int[] {5, 14}, whats, new int[] {-100, 0, -100, -100, -100, -100, -100});
        for (int t = 0; t < 10; t++) {
            x.drop(0, 99);
        }
        x.drop(0, 6);
        dueDay("to 999", x, new int[] {0, 0}, new int[] {1, 10}, new int[] {NONE, 999});
        dueDay("to 1000", x, new int[] {0, 0, 0, 0}, new int[] {1, 10}, new int[] {1, -101});
        dueDay("settled first", x, new int[] {0, 0, 9, 2, 0, 0}, new int[] {1}, new int[] {NONE});
        // A heap may go above 999 by topplings, as topple() has no such refusal.
        dueDay("toppled to 1000", x, new int[] {0, 0, 1, 0, 1, 1}, new int[] {1, 10}, new int[] {NONE, 1000});
        dueDay("dropped on 1000", x, new int[] {0, 0, 1, 0, 1, 1, 0, 0}, new int[] {1}, new int[] {3});
        due("heaps are as they were", x.many(1), 998 + 4);
    }

    private static void dayRefusals() {
        ToppleYard none = new ToppleYard();
        due("nothing", none.day(0, 0, 0, 0, 0), NULL);
        none.sheet(0, 0, 4);
        due("no yard", none.day(0, 0, 0, 2, 0), STATE);
        none.put(0, 1, 99);
        due("no yard goes ahead of pairs", none.day(0, 0, 0, 2, 0), STATE);
        due("index goes ahead of no yard", none.day(0, 0, 0, 3, 0), INDEX);
        ToppleYard x = yard(TRIANGLE);
        for (int k : new int[] {-1, 4, MAX}) {
            due("sheet " + k, x.day(k, 9, 0, 99, 99), UNKNOWN);
        }
        Check.row(x, 1, 1, new int[42]);
        for (int wrong : new int[] {-1, 3, MAX}) {
            due("lane " + wrong, x.day(1, wrong, 0, 1, 0), OUTSIDE);
        }
        for (int wrong : new int[] {-1, 21, MAX, MIN, 0x40000000}) {
            due("n " + wrong, x.day(1, 1, 0, wrong, 0), OUTSIDE);
        }
        for (int wrong : new int[] {-1, 5, 9, 15, MAX, MIN}) {
            due("what " + wrong, x.day(1, 1, 0, 1, wrong), OUTSIDE);
        }
        due("n goes ahead of cast", x.day(1, 2, 0, 21, 0), OUTSIDE);
        due("20", x.day(1, 1, 2, 20, 0), 20);
        due("cast", x.day(1, 2, -1, 1, 0), CAST);
        due("index", x.day(1, 1, 3, 20, 0), INDEX);
        due("index", x.day(1, 1, -1, 0, 0), INDEX);
        due("index", x.day(1, 1, 43, 0, 0), INDEX);
        due("index", x.day(1, 1, MAX, 20, 0), INDEX);
        due("fault", x.fault(), 3);
        due("42", x.day(1, 1, 42, 0, 0), 0);
        due("fault", x.fault(), 0);
        int[][] outside = {{0, 3}, {0, 9}, {0, 15}, {0, -1}, {-1, 2}, {10, 2}, {-1, 10}, {100, 14}, {7, 3}};
        for (int[] pair : outside) {
            Check.row(x, 2, 2, pair);
            due("pair " + pair[0] + ", " + pair[1], x.day(2, 2, 0, 1, 1), OUTSIDE);
        }
        int[][] unknown = {{3, 0}, {-1, 0}, {3, 1}, {MAX, 1}, {MIN, 0}};
        for (int[] pair : unknown) {
            Check.row(x, 2, 2, pair);
            due("pair " + pair[0] + ", " + pair[1], x.day(2, 2, 0, 1, 1), UNKNOWN);
        }
        Check.row(x, 2, 2, 9, 0, 0, 9);
        due("unknown in the first pair", x.day(2, 2, 0, 2, 0), UNKNOWN);
        Check.row(x, 2, 2, 0, 9, 9, 0);
        due("outside in the first pair", x.day(2, 2, 0, 2, 0), OUTSIDE);
        Check.row(x, 2, 2, 0, 1, 9, 0);
        due("refused ahead of the first wrong", x.day(2, 2, 0, 2, 0), UNKNOWN);
        due("not taken", x.day(2, 2, 0, 1, 0), -100);
    }

    private static void spill() {
        ToppleYard x = yard(TRIANGLE);
        heaps(x, 2, 2, 2);
        for (int p = 0; p < 3; p++) {
            due("topplings", x.spill(p, 0), 3);
            due("fallen", x.spill(p, 1), 3);
            due("set", x.spill(p, 2), 7);
        }
        heaps(x, 2, 2, 1);
        due("topplings", x.spill(0, 0), 3);
        due("set", x.spill(2, 2), 0);
        due("topplings", x.spill(2, 0), 0);
        heaps(x, 2, 0, 0);
        due("one", x.spill(0, 0), 1);
        due("one", x.spill(0, 2), 1);
        due("none", x.spill(1, 1), 0);
        heaps(x, 0, 0, 6);
        due("not settled before", x.spill(0, 0), 4);
        due("not settled before", x.spill(0, 2), 7);
        dueHeaps("unchanged", x, 0, 0, 6);
        due("unchanged", x.many(2) + x.many(3), 0);
        due("3", x.spill(0, 3), OUTSIDE);
        due("-1", x.spill(0, -1), OUTSIDE);
        due("place 3", x.spill(3, 3), UNKNOWN);
        due("place -1", x.spill(-1, 0), UNKNOWN);
        ToppleYard m = yard("y21;b22;d25");
        // 3 paths each; place 0 bears 4, place 1 bears 6.
        due("broad, below", m.spill(0, 0), 0);
        due("double, as many", m.spill(1, 2), 2);
        due("double, fallen", m.spill(1, 1), 2);
        m.heap(0, 3);
        due("both", m.spill(0, 2), 3);
    }

    private static void again() {
        ToppleYard x = yard(TRIANGLE);
        due("behind", x.again(0, 0), 5);
        due("by", x.again(0, 1), 4);
        heaps(x, 2, 1, 1);
        due("behind", x.again(0, 0), 0);
        due("by", x.again(0, 1), 4);
        heaps(x, 6, 0, 0);
        // Settled it is 0, 2, 2, one ahead of 2, 1, 1 on the round.
        due("settled first", x.again(0, 0), 0);
        dueHeaps("unchanged", x, 6, 0, 0);
        due("unchanged", x.many(2) + x.many(3), 0);
        due("2", x.again(0, 2), OUTSIDE);
        due("-1", x.again(0, -1), OUTSIDE);
        due("place 3", x.again(3, 2), UNKNOWN);
        due("place -1", x.again(-1, 0), UNKNOWN);
        ToppleYard one = yard("y20;p10;p10");
        due("at once", one.again(0, 0), 0);
        due("at once", one.again(0, 1), 1);
        ToppleYard far = yard("y51010323020;d13;b07;b21;b08;d02");
        due("500 together", far.again(2, 0), 9);
        due("500 together", far.again(2, 1), 491);
        far.heap(2, 0);
        due("501 together", far.again(2, 0), NONE);
        due("501 together", far.again(2, 1), NONE);
    }

    private static void burnt() {
        due("no yard", new ToppleYard().burnt(), STATE);
        ToppleYard x = yard(TRIANGLE);
        due("nothing there", x.burnt(), 0);
        heaps(x, 2, 2, 2);
        due("all", x.burnt(), 7);
        heaps(x, 2, 1, 0);
        due("one by one", x.burnt(), 7);
        heaps(x, 0, 1, 2);
        due("one by one, from the last", x.burnt(), 7);
        heaps(x, 2, 0, 0);
        due("one", x.burnt(), 1);
        heaps(x, 1, 1, 2);
        due("all by the last", x.burnt(), 7);
        heaps(x, 0, 0, 2);
        due("the last", x.burnt(), 4);
        heaps(x, 1, 1, 1);
        due("none", x.burnt(), 0);
        heaps(x, 3, 0, 0);
        due("not settled", x.burnt(), STATE);
        heaps(x, 0, 0, 3);
        due("not settled", x.burnt(), STATE);
        ToppleYard m = yard("y21;b20;d20");
        heaps(m, 1, 0);
        due("broad, below", m.burnt(), 0);
        heaps(m, 2, 0);
        due("broad", m.burnt(), 1);
        heaps(m, 2, 3);
        due("broad, then double", m.burnt(), 3);
        heaps(m, 1, 4);
        due("double, then broad", m.burnt(), 3);
        heaps(m, 3, 2);
        due("double, below", m.burnt(), 1);
    }

    private static void trees() {
        due("no yard", new ToppleYard().trees(), LOST);
        due("triangle", yard(TRIANGLE).trees(), 16);
        due("two", yard(TWO).trees(), 7);
        due("alone", yard("y20;p20;d30").trees(), 6);
        due("a row", yard("y3203;p00;p00;b10").trees(), 6);
        due("kinds don't matter", yard(MIXED).trees(), yard("y3120;b01;d12;p25").trees());
        due("mixed", yard(MIXED).trees(), 12);
        due("as many as can be", yard("y53333333333;p30;p30;p30;p30;p30").trees(), 314928);
        ToppleYard x = yard(TRIANGLE);
        x.heap(0, 9);
        due("heaps don't matter", x.trees(), 16);
    }

    private static int alikeTo(ToppleYard x, int... told) {
        Check.row(x, 1, 2, told);
        return x.alike(1, 2, 0);
    }

    private static void alike() {
        ToppleYard x = yard(TRIANGLE);
        due("itself", alikeTo(x, 0, 0, 0), 1);
        due("all backwards", alikeTo(x, 1, 1, 1), 1);
        due("all far backwards", alikeTo(x, 999, 999, 999), 1);
        due("one grain", alikeTo(x, 1, 0, 0), 0);
        due("one grain", alikeTo(x, 0, 1, 0), 0);
        due("one grain", alikeTo(x, 0, 0, 1), 0);
        due("two", alikeTo(x, 2, 0, 0), 0);
        due("four", alikeTo(x, 4, 0, 0), 1);
        due("four", alikeTo(x, 0, 0, 4), 1);
        due("two and two", alikeTo(x, 2, 2, 0), 0);
        heaps(x, 3, 0, 0);
        due("toppled", alikeTo(x, 0, 1, 1), 1);
        heaps(x, 0, 1, 1);
        due("toppled back", alikeTo(x, 3, 0, 0), 1);
        dueHeaps("unchanged", x, 0, 1, 1);
        ToppleYard m = yard("y21;b20;d20");
        heaps(m, 0, 3);
        due("whatever it bears", alikeTo(m, 1, 0), 1);
        due("not so", alikeTo(m, 0, 1), 0);
        ToppleYard alone = yard("y20;p30;p20");
        due("alone", alikeTo(alone, 3, 2), 1);
        due("the first is off", alikeTo(alone, 2, 2), 0);
        due("the second is off", alikeTo(alone, 3, 1), 0);
        due("999", alikeTo(alone, 999, 998), 1);
        ToppleYard one = yard("y20;p10;p10");
        due("one path each", alikeTo(one, 0, 7), 1);
        ToppleYard five = yard("y53333333333;p31;p30;p30;p30;p30");
        // If place 0 topples twice and the others once, it has 18 less and they are as they were.
        due("five, 18 more", alikeTo(five, 19, 0, 0, 0, 0), 1);
        due("five, 9 more", alikeTo(five, 10, 0, 0, 0, 0), 0);
        heaps(five, 18, 0, 0, 0, 1);
        due("five, toppled", alikeTo(five, 3, 3, 3, 3, 4), 1);
        due("five, one off", alikeTo(five, 3, 3, 3, 3, 3), 0);
        Check.row(x, 3, 0, 5, 0, 1, 1, 5);
        due("from 1 on, bytes", x.alike(3, 0, 1), 1);
        due("from 2 on", x.alike(3, 0, 2), 0);
    }

    private static void alikeRefusals() {
        ToppleYard none = new ToppleYard();
        due("no yard", none.alike(9, 9, 9), STATE);
        due("fault", none.fault(), 0);
        ToppleYard x = yard(TRIANGLE);
        due("sheet 4", x.alike(4, 9, 0), UNKNOWN);
        due("sheet -1", x.alike(-1, 0, 0), UNKNOWN);
        due("lane 3", x.alike(1, 3, 0), OUTSIDE);
        due("lane -1", x.alike(1, -1, 0), OUTSIDE);
        due("nothing", x.alike(1, 0, -1), NULL);
        due("fault", x.fault(), 1);
        Check.row(x, 1, 1, 1000, -1, 999, 0);
        due("cast", x.alike(1, 0, -1), CAST);
        due("index", x.alike(1, 1, 2), INDEX);
        due("index", x.alike(1, 1, -1), INDEX);
        due("index", x.alike(1, 1, MAX), INDEX);
        due("index", x.alike(1, 1, MIN), INDEX);
        due("fault", x.fault(), 3);
        due("1000", x.alike(1, 1, 0), OUTSIDE);
        due("fault", x.fault(), 0);
        due("-1", x.alike(1, 1, 1), OUTSIDE);
        x.put(1, 1, 0);
        due("0 .. 999", x.alike(1, 1, 1), 0);
    }

    private static void readings() {
        ToppleYard none = new ToppleYard();
        due("no yard", none.reading(0, 0), UNKNOWN);
        due("no yard", none.back(0), 0);
        due("no yard", none.back(1), OUTSIDE);
        ToppleYard x = yard(TRIANGLE);
        for (int r = 0; r < 7; r++) {
            due("number", x.reading(r % 3, r), r);
        }
        due("1000", x.reading(0, 1000), OUTSIDE);
        due("-1", x.reading(0, -1), OUTSIDE);
        due("999", x.reading(0, 999), 7);
        due("a ninth", x.reading(0, 0), FULL);
        due("wrong goes first", x.reading(0, 1000), OUTSIDE);
        due("place goes first", x.reading(3, 1000), UNKNOWN);
        due("place -1", x.reading(-1, 0), UNKNOWN);
        due("many", x.many(4), 8);
        due("9 back", x.back(9), OUTSIDE);
        due("-1 back", x.back(-1), OUTSIDE);
        due("least back", x.back(MIN), OUTSIDE);
        due("none back", x.back(0), 8);
        due("3 back", x.back(3), 5);
        due("number", x.reading(0, 5), 5);
        due("all back", x.back(6), 0);
        due("many", x.many(4), 0);
        due("number", x.reading(0, 0), 0);
    }

    private static void kinds() {
        due("no yard", new ToppleYard().kinds(0), UNKNOWN);
        ToppleYard x = yard("y21;p20;p20");
        // 3 paths each: a plain one bears 3, a broad one 4, a double one 6.
        heaps(x, 2, 0);
        due("no readings", x.kinds(0), 7);
        x.reading(0, 1);
        due("plain alone", x.kinds(0), 1);
        due("the other is any", x.kinds(1), 7);
        x.back(1);
        x.reading(0, 0);
        due("broad, double", x.kinds(0), 6);
        due("the other can't help", x.kinds(1), 0);
        x.heap(0, 3);
        due("as all is now", x.kinds(0), 4);
        x.heap(0, 5);
        due("as all is now", x.kinds(0), 0);
        x.reading(1, 0);
        x.back(1);
        due("one taken back", x.kinds(0), 0);
        x.back(1);
        due("none left", x.kinds(0), 7);
        heaps(x, 3, 2);
        x.reading(1, 2);
        due("plain before, broad behind the other", x.kinds(0), 3);
        due("kind stays", x.ofPlace(0, 0), 0);
        due("bears stays", x.ofPlace(0, 4), 3);
        x.reading(0, 2);
        due("two that agree", x.kinds(0), 3);
        x.reading(0, 0);
        due("two that don't", x.kinds(0), 0);
        due("place 2", x.kinds(2), UNKNOWN);
        due("place -1", x.kinds(-1), UNKNOWN);
        ToppleYard d = yard("y21;d25;p20");
        d.reading(0, 1);
        // With 5 and one more: plain and broad ones go on twice and once, double ones once.
        due("once", d.kinds(0), 6);
        due("kind stays", d.ofPlace(0, 0), 2);
        due("bears stays", d.ofPlace(0, 4), 6);
    }

    private static void heapings() {
        due("no yard", new ToppleYard().heapings(0), UNKNOWN);
        ToppleYard x = yard("y21;p21;p20");
        due("no readings", x.heapings(0), (1 << 20) - 1);
        x.reading(0, 0);
        due("0, 1", x.heapings(0), 3);
        due("0 .. 2", x.heapings(1), 7);
        x.back(1);
        x.reading(0, 1);
        due("2 .. 4", x.heapings(0), 4 + 8 + 16);
        x.reading(1, 1);
        due("3, 4", x.heapings(0), 8 + 16);
        due("none of the other", x.heapings(1), 0);
        x.heap(1, 2);
        due("as all is now", x.heapings(0), 0);
        dueHeaps("unchanged", x, 1, 2);
        x.back(2);
        heaps(x, 99, 99);
        x.reading(0, 1);
        due("the other is too high", x.heapings(0), 0);
        due("place 2", x.heapings(2), UNKNOWN);
        due("place -1", x.heapings(-1), UNKNOWN);
        ToppleYard alone = yard("y20;p10;p10");
        alone.heap(0, 20);
        alone.reading(0, 21);
        due("20 is too high to be told", alone.heapings(0), 0);
        alone.back(1);
        alone.reading(0, 20);
        due("19, as high as it goes", alone.heapings(0), 1 << 19);
    }

    private static void dueOdds(String call, ToppleYard x, long upper, long lower) {
        due(call + ", upper", x.odds(0), upper);
        due(call + ", lower", x.odds(1), lower);
    }

    private static void odds() {
        dueOdds("no yard", new ToppleYard(), LOST, LOST);
        ToppleYard x = yard(TRIANGLE);
        dueOdds("none", x, 0, 1);
        heaps(x, 2, 0, 0);
        dueOdds("one", x, 1, 3);
        heaps(x, 2, 0, 2);
        dueOdds("two", x, 2, 3);
        heaps(x, 2, 2, 2);
        dueOdds("all", x, 1, 1);
        heaps(x, 0, 3, 0);
        dueOdds("not settled", x, 1, 1);
        due("2", x.odds(2), LOST);
        due("-1", x.odds(-1), LOST);
        ToppleYard four = yard("y4000000;p11;b11;d11;p30");
        // They bear 1, 2, 2, 3: place 0 is ready already.
        dueOdds("not settled", four, 1, 1);
        four.heap(0, 0);
        dueOdds("three of four", four, 3, 4);
        four.heap(1, 0);
        dueOdds("two of four", four, 1, 2);
        ToppleYard five = yard("y50000000000;p10;p20;p20;p20;p20");
        dueOdds("one of five", five, 1, 5);
    }

    private static void sheet() {
        ToppleYard x = new ToppleYard();
        for (int k : new int[] {-1, 4, MIN, MAX}) {
            due("sheet " + k, x.sheet(k, 9, -1), UNKNOWN);
        }
        for (int lane : new int[] {-1, 3, MIN, MAX}) {
            due("lane " + lane, x.sheet(0, lane, -1), OUTSIDE);
        }
        due("61", x.sheet(0, 0, 61), OUTSIDE);
        due("most", x.sheet(0, 0, MAX), OUTSIDE);
        due("fault", x.fault(), 0);
        due("-1", x.sheet(0, 0, -1), SIZE);
        due("fault", x.fault(), 4);
        due("least", x.sheet(0, 0, MIN), SIZE);
        due("still nothing", x.lose(0), 0);
        due("60", x.sheet(0, 0, 60), 1);
        due("fault", x.fault(), 0);
        due("put 59", x.put(0, 59, 5), 1);
        due("put 60", x.put(0, 60, 5), INDEX);
        due("refused", x.sheet(0, 0, -1), SIZE);
        due("the old row stays", x.cell(0, 59, 0), 5);
        due("a new row", x.sheet(0, 0, 60), 1);
        due("is 0", x.cell(0, 59, 0), 0);
        x.put(0, 59, 5);
        due("a short row", x.sheet(0, 2, 0), 1);
        due("no cells", x.cell(0, 0, 2), LOST);
        due("fault", x.fault(), 3);
        due("a long row", x.sheet(0, 1, 60), 1);
        due("is 0", x.cell(0, 59, 1), 0);
        due("others have nothing", x.lose(1) + x.lose(2) + x.lose(3), 0);
    }

    private static void lose() {
        ToppleYard x = new ToppleYard();
        due("nothing", x.lose(0), 0);
        x.sheet(0, 0, 0);
        x.sheet(1, 1, 1);
        due("a row of none", x.lose(0), 1);
        due("once more", x.lose(0), 0);
        due("put", x.put(0, 0, 1), NULL);
        due("another stays", x.put(1, 0, 1), 1);
        due("fault", x.fault(), 0);
        due("put", x.put(0, 0, 1), NULL);
        due("lose", x.lose(1), 1);
        due("lose names no fault", x.fault(), 1);
        due("sheet 4", x.lose(4), UNKNOWN);
        due("sheet -1", x.lose(-1), UNKNOWN);
        due("lose names no fault", x.fault(), 1);
        ToppleYard y = yard(TRIANGLE);
        y.lose(0);
        due("a yard needs no sheet", y.many(0), 3);
    }

    private static void put() {
        ToppleYard x = new ToppleYard();
        due("sheet 4", x.put(4, 0, 0), UNKNOWN);
        due("sheet -1", x.put(-1, 0, 0), UNKNOWN);
        due("nothing", x.put(0, -1, 0), NULL);
        due("fault", x.fault(), 1);
        int[] told = {127, 128, 255, 256, -129, 32767, 32768, 65535, MAX, MIN, -1, 70000};
        for (int lane = 0; lane <= 2; lane++) {
            x.sheet(lane, lane, 2);
            due("-1", x.put(lane, -1, 0), INDEX);
            due("fault", x.fault(), 3);
            due("2", x.put(lane, 2, 0), INDEX);
            due("most", x.put(lane, MAX, 0), INDEX);
            due("least", x.put(lane, MIN, 0), INDEX);
            for (int v : told) {
                due("put", x.put(lane, 1, v), 1);
                due("fault", x.fault(), 0);
                long want = lane == 0 ? (byte) v : lane == 1 ? (short) v : v;
                due(v + " in lane " + lane, x.cell(lane, 1, lane), want);
                due("the other cell", x.cell(lane, 0, lane), 0);
            }
        }
    }

    private static void cell() {
        ToppleYard x = new ToppleYard();
        due("sheet 4", x.cell(4, 0, 0), LOST);
        due("fault", x.fault(), 0);
        due("nothing", x.cell(0, -1, 1), LOST);
        due("fault", x.fault(), 1);
        Check.row(x, 0, 1, 7, -8, 300);
        due("7", x.cell(0, 0, 1), 7);
        due("-8", x.cell(0, 1, 1), -8);
        due("300", x.cell(0, 2, 1), 300);
        due("fault", x.fault(), 0);
        for (int lane : new int[] {0, 2}) {
            due("cast", x.cell(0, -1, lane), LOST);
            due("fault", x.fault(), 2);
        }
        due("lane 3", x.cell(0, 0, 3), LOST);
        due("fault", x.fault(), 0);
        for (int i : new int[] {-1, 3, MIN, MAX}) {
            due("cell " + i, x.cell(0, i, 1), LOST);
            due("fault", x.fault(), 3);
        }
        due("lane -1", x.cell(0, 0, -1), LOST);
        due("fault", x.fault(), 0);
        due("sheet -1", x.cell(-1, 0, 1), LOST);
    }

    private static void dueRow(String call, ToppleYard x, int k, int lane, int... row) {
        for (int i = 0; i < row.length; i++) {
            due(call + ", cell " + i, x.cell(k, i, lane), row[i]);
        }
        due(call + ", no more", x.cell(k, row.length, lane), LOST);
    }

    private static void copy() {
        ToppleYard x = new ToppleYard();
        Check.row(x, 0, 2, 1, 2, 3, 4, 5);
        Check.row(x, 1, 2, 9, 9, 9);
        due("two", x.copy(0, 3, 1, 1, 2), 2);
        dueRow("two", x, 1, 2, 9, 4, 5);
        due("forth on itself", x.copy(0, 0, 0, 1, 4), 4);
        dueRow("forth on itself", x, 0, 2, 1, 1, 2, 3, 4);
        due("back on itself", x.copy(0, 1, 0, 0, 4), 4);
        dueRow("back on itself", x, 0, 2, 1, 2, 3, 4, 4);
        due("none", x.copy(0, 5, 1, 3, 0), 0);
        due("all", x.copy(1, 0, 0, 2, 3), 3);
        dueRow("all", x, 0, 2, 1, 2, 9, 4, 5);
        dueRow("the first stays", x, 1, 2, 9, 4, 5);
        due("on itself", x.copy(0, 0, 0, 0, 5), 5);
        due("fault", x.fault(), 0);
    }

    private static void copyFaults() {
        ToppleYard x = new ToppleYard();
        for (int k : new int[] {-1, 4}) {
            due("sheet", x.copy(k, 0, 0, 0, 0), UNKNOWN);
            due("other", x.copy(0, 0, k, 0, 0), UNKNOWN);
        }
        due("both nothing", x.copy(0, 0, 1, 0, 0), NULL);
        Check.row(x, 0, 1, 1, 2, 3);
        due("the other nothing", x.copy(0, 0, 1, 0, -1), NULL);
        due("the first nothing", x.copy(1, 0, 0, 0, 0), NULL);
        due("fault", x.fault(), 1);
        Check.row(x, 1, 2, 7, 7);
        due("cast", x.copy(0, 0, 1, 0, -1), CAST);
        due("fault", x.fault(), 2);
        Check.row(x, 1, 1, 7, 7);
        int[][] wrong = {{-1, 0, 1}, {0, -1, 1}, {0, 0, -1}, {2, 0, 2}, {0, 1, 2}, {0, 0, 3}, {4, 0, 0}, {0, 3, 0},
            {MAX, 0, 1}, {0, MAX, 1}, {1, 1, MAX}, {MIN, 0, 0}, {0, MIN, 0}, {0, 0, MIN}, {MAX, MAX, MAX}};
        for (int[] w : wrong) {
            due("from " + w[0] + " to " + w[1] + ", " + w[2], x.copy(0, w[0], 1, w[1], w[2]), INDEX);
            due("fault", x.fault(), 3);
        }
        dueRow("unchanged", x, 1, 1, 7, 7);
        due("as many as there is room for", x.copy(0, 1, 1, 0, 2), 2);
        due("fault", x.fault(), 0);
        dueRow("changed", x, 1, 1, 2, 3);
    }

    private static void tell() {
        due("no yard", new ToppleYard().tell(0), UNKNOWN);
        ToppleYard x = yard(MIXED);
        due("plain", x.tell(0), 1);
        due("trace", x.trace(), 1);
        due("broad", x.tell(1), 102);
        due("trace", x.trace(), (1 * 31 + 2) * 31 + 1);
        due("double", x.tell(2), 110);
        due("trace", x.trace(), ((((1 * 31 + 2) * 31 + 1) * 31 + 3) * 31 + 2) * 961 + 32);
        int before = x.trace();
        due("place 3", x.tell(3), UNKNOWN);
        due("place -1", x.tell(-1), UNKNOWN);
        due("trace stays", x.trace(), before);
        x.heap(2, 99);
        due("as high as now", x.tell(2), 298);
    }

    private static void strike() {
        due("no yard", new ToppleYard().strike(0), UNKNOWN);
        ToppleYard x = yard(MIXED);
        due("plain", x.strike(0), 0);
        due("trace", x.trace(), 4);
        due("broad", x.strike(1), 1);
        due("trace", x.trace(), 4 * 31 + 4);
        due("double", x.strike(2), 60);
        due("trace", x.trace(), (4 * 31 + 4) * 31 + 5);
        due("place 3", x.strike(3), UNKNOWN);
        due("place -1", x.strike(-1), UNKNOWN);
        due("trace stays", x.trace(), (4 * 31 + 4) * 31 + 5);
        due("three to the pit", yard("y20;p30;p10").strike(0), 3);
    }

    private static void as() {
        due("no yard", new ToppleYard().as(0, 9), UNKNOWN);
        ToppleYard x = yard(MIXED);
        int[][] all = {{1, CAST, CAST}, {1, 1, CAST}, {1, 1, 1}};
        for (int p = 0; p < 3; p++) {
            for (int kind = 0; kind <= 2; kind++) {
                due(p + " as " + kind, x.as(p, kind), all[p][kind]);
                due("fault", x.fault(), all[p][kind] == 1 ? 0 : 2);
            }
            x.as(0, 2);
            due("3", x.as(p, 3), OUTSIDE);
            due("fault", x.fault(), 0);
            due("-1", x.as(p, -1), OUTSIDE);
        }
        x.as(0, 2);
        due("place 3", x.as(3, 3), UNKNOWN);
        due("fault", x.fault(), 0);
        due("place -1", x.as(-1, 0), UNKNOWN);
    }

    private static void trace() {
        ToppleYard x = yard(MIXED);
        int want = 0;
        for (int t = 0; t < 40; t++) {
            x.tell(t % 3);
            for (int body : new int[][] {{1}, {2, 1}, {3, 2, 1, 1}}[t % 3]) {
                want = 31 * want + body;
            }
            x.strike(t % 2);
            want = 31 * want + 4;
            due("wraps", x.trace(), want);
        }
        x.as(2, 1);
        x.spill(0, 0);
        due("others leave it", x.trace(), want);
        Check.yardOf(x, TWO);
        due("a new yard leaves it", x.trace(), want);
    }

    private static void setFault(ToppleYard x) {
        x.put(3, 0, 0);
        due("a fault first", x.fault(), 1);
    }

    private static void fault() {
        ToppleYard x = yard(TRIANGLE);
        due("none", x.fault(), 0);
        setFault(x);
        x.heap(0, 1);
        x.heap(9, 1);
        x.drop(0, 0);
        x.topple(0);
        x.settle();
        x.spill(0, 9);
        x.again(0, 9);
        x.burnt();
        x.trees();
        x.reading(0, 0);
        x.back(1);
        x.kinds(0);
        x.heapings(0);
        x.odds(9);
        x.lose(1);
        x.tell(0);
        x.strike(9);
        x.trace();
        x.many(9);
        x.ofPlace(0, 9);
        x.paths(0, 0);
        due("the others name none", x.fault(), 1);
        Check.row(x, 1, 0, 0, 0, 0);
        setFault(x);
        x.yard(9, 0, 0, 0);
        due("yard, refused", x.fault(), 0);
        setFault(x);
        x.yard(1, 0, 0, 3);
        due("yard, no text", x.fault(), 0);
        setFault(x);
        x.day(1, 0, 0, 99, 0);
        due("day, refused", x.fault(), 0);
        setFault(x);
        x.day(1, 0, 0, 1, 0);
        due("day", x.fault(), 0);
        setFault(x);
        x.alike(1, 0, 0);
        due("alike", x.fault(), 0);
        setFault(x);
        x.alike(9, 0, 0);
        due("alike, refused", x.fault(), 0);
        setFault(x);
        x.sheet(9, 0, 0);
        due("sheet, refused", x.fault(), 0);
        setFault(x);
        x.sheet(2, 0, 0);
        due("sheet", x.fault(), 0);
        setFault(x);
        x.put(9, 0, 0);
        due("put, refused", x.fault(), 0);
        setFault(x);
        x.cell(9, 0, 0);
        due("cell, refused", x.fault(), 0);
        setFault(x);
        x.cell(1, 0, 0);
        due("cell", x.fault(), 0);
        setFault(x);
        x.copy(9, 0, 0, 0, 0);
        due("copy, refused", x.fault(), 0);
        setFault(x);
        x.as(9, 0);
        due("as, refused", x.fault(), 0);
        setFault(x);
        x.as(0, 0);
        due("as", x.fault(), 0);
        ToppleYard none = new ToppleYard();
        setFault(none);
        none.alike(0, 0, 0);
        due("alike, no yard", none.fault(), 0);
        none.sheet(0, 0, 0);
        setFault(none);
        none.day(0, 0, 0, 0, 0);
        due("day, no yard", none.fault(), 0);
    }

    private static void many() {
        ToppleYard x = yard(MIXED);
        due("places", x.many(0), 3);
        due("heaps", x.many(1), 8);
        due("fallen", x.many(2), 0);
        due("topplings", x.many(3), 0);
        due("readings", x.many(4), 0);
        heaps(x, 3, 3, 8);
        x.topple(2);
        due("fallen", x.many(2), 2);
        due("topplings", x.many(3), 1);
        int more = x.settle();
        due("topplings", x.many(3), 1 + more);
        due("no grain is lost", x.many(1) + x.many(2), 14);
        int fallen = x.many(2);
        x.spill(0, 0);
        x.again(1, 1);
        x.reading(0, 0);
        x.heap(0, 0);
        due("not by others", x.many(2), fallen);
        due("not by others", x.many(3), 1 + more);
        due("readings", x.many(4), 1);
        for (int what : new int[] {-1, 5, MIN, MAX}) {
            due("what " + what, x.many(what), OUTSIDE);
        }
        ToppleYard five = yard("y50000000000;p11;p22;p33;d14;d15");
        due("five heaps", five.many(1), 15);
        Check.yardOf(five, "y20;p11;p22");
        Check.yardOf(five, "y20;p11;p22");
        due("two heaps, none of the five", five.many(1), 3);
    }
}
