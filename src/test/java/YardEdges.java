/** The yard: the text and its kinds (terms 1), promises 1 to 5. */
final class YardEdges {
    private static final String TWO = "y21;p13;b02";
    private static final String FIVE = "y50123012301;p10;b11;d22;p33;b09";

    private YardEdges() {
    }

    static void all() {
        textBegins();
        textPaths();
        textPlaces();
        firstFaults();
        codes();
        kinds();
        shut();
        anew();
        degrees();
        newObject();
        yardTaken();
        yardRefused();
        yardFaults();
        ofPlace();
        paths();
        heap();
    }

    private static void dueText(String text, int want) {
        DocumentText.due("text " + text, Check.yardOf(new ToppleYard(), text), want);
    }

    private static void textBegins() {
        DocumentText.terms(1, "A YARD by a TEXT: y, then a digit 2 .. 5 (how many PLACES there are, numbered from 0 on),");
        dueText("y1;p10", -101);
        dueText("y20;p10;p10", 2);
        dueText("y3000;p10;p10;p10", 3);
        dueText("y4000000;p10;p10;p10;p10", 4);
        dueText("y50000000000;p10;p10;p10;p10;p10", 5);
        dueText("y6000000000000000;p10;p10;p10;p10;p10;p10", -101);
        for (String text : new String[] {TWO, FIVE}) {
            ToppleYard x = Check.withYard(text);
            int places = text.charAt(1) - '0';
            DocumentText.due("before the first", x.ofPlace(-1, 2), Scene.UNKNOWN);
            DocumentText.due("the first", x.ofPlace(0, 1), 1);
            DocumentText.due("the last", x.ofPlace(places - 1, 0), 1);
            DocumentText.due("behind the last", x.ofPlace(places, 2), Scene.UNKNOWN);
        }
    }

    private static void textPaths() {
        DocumentText.terms(1, "then a digit 0 .. 3 for each two of them (how many PATHS there are between them):"
                + " 0 and 1, 0 and 2, .., 1 and 2, ..;");
        for (int digit = 0; digit <= 9; digit++) {
            dueText("y2" + digit + ";p10;p10", digit <= 3 ? 2 : -102);
        }
        dueText("y2/;p10;p10", -102);
        dueText("y200;p10;p10", -103);
        dueText("y5012301230;p10;p10;p10;p10;p10", -111);
        ToppleYard x = Check.withYard(FIVE);
        int[][] all = {{-1, 0, 1, 2, 3}, {0, -1, 0, 1, 2}, {1, 0, -1, 3, 0}, {2, 1, 3, -1, 1}, {3, 2, 0, 1, -1}};
        for (int a = 0; a < 5; a++) {
            for (int b = 0; b < 5; b++) {
                DocumentText.due("between " + a + " and " + b, x.paths(a, b), all[a][b]);
            }
        }
    }

    private static void textPlaces() {
        DocumentText.terms(1, "then for each PLACE: ; and a letter (its kind), a digit 0 .. 3 (PATHS to the PIT),"
                + " a digit 0 .. 9 (HEAP).");
        for (int digit = 0; digit <= 9; digit++) {
            dueText("y23;p10;p" + digit + "0", digit <= 3 ? 2 : -109);
            ToppleYard x = Check.withYard("y23;p10;p1" + digit);
            DocumentText.due("heap " + digit, x.ofPlace(1, 2), digit);
        }
        dueText("y23;p10;p/0", -109);
        dueText("y23;p10;p1/", -110);
        dueText("y23;p10;p1:", -110);
        dueText("y23p10;p10", -103);
        dueText("y23;p10p10", -107);
        dueText("y23;10;p10", -104);
        dueText("y23;p10:p10", -107);
        DocumentText.due("paths to the pit", Check.withYard("y23;p30;p00").ofPlace(0, 1), 3);
        DocumentText.due("no paths to the pit", Check.withYard("y23;p30;p00").ofPlace(1, 1), 0);
    }

    private static void firstFaults() {
        DocumentText.terms(1, "FIRST FAULT: the place (from 0 on) of the first code with which no TEXT goes on"
                + " (anything behind the last PLACE);");
        for (String text : new String[] {TWO, FIVE}) {
            for (int at = 0; at < text.length(); at++) {
                dueWrongCodes(text, at);
            }
            for (String more : new String[] {"y", ";", "0", ";p10", "\0", " "}) {
                dueText(text + more, -100 - text.length());
            }
        }
        dueText("x1x", -100);
        dueText("yxx", -101);
        DocumentText.terms(1, "how many codes there are, if it just ends too soon.");
        for (String text : new String[] {TWO, FIVE}) {
            for (int n = 0; n < text.length(); n++) {
                dueText(text.substring(0, n), -100 - n);
            }
        }
    }

    /** At a place of a text every code that no text has there, of 1 .. 127 and of some beyond. */
    private static void dueWrongCodes(String text, int at) {
        String may = mayStand(text, at);
        ToppleYard x = new ToppleYard();
        Check.row(x, 1, 2, text.chars().toArray());
        for (int code = 0; code <= 127; code++) {
            if (may.indexOf(code) < 0) {
                x.put(1, at, code);
                DocumentText.due(text + " with " + code + " at " + at, x.yard(1, 2, 0, text.length()), -100 - at);
            }
        }
        for (int far : new int[] {-256, 256, 65536, Scene.MIN}) {
            x.put(1, at, text.charAt(at) + far);
            DocumentText.due(text + " with a code far off at " + at, x.yard(1, 2, 0, text.length()), -100 - at);
        }
    }

    private static String mayStand(String text, int at) {
        int places = text.charAt(1) - '0';
        int head = 2 + places * (places - 1) / 2;
        if (at < head) {
            return at == 0 ? "y" : at == 1 ? "2345" : "0123";
        }
        return new String[] {";", "pbd", "0123", "0123456789"}[(at - head) % 4];
    }

    private static void codes() {
        DocumentText.terms(1, "(Codes: y 121, p 112, b 98, d 100, ; 59, digits 48 .. 57.)");
        ToppleYard x = new ToppleYard();
        int[] text = {121, 51, 48, 51, 49, 59, 112, 50, 48, 59, 98, 49, 57, 59, 100, 48, 53};
        Check.row(x, 2, 1, text);
        DocumentText.due("taken", x.yard(2, 1, 0, 17), 3);
        int[][] wants = {{0, 2, 0}, {1, 1, 9}, {2, 0, 5}};
        for (int p = 0; p < 3; p++) {
            for (int what = 0; what <= 2; what++) {
                DocumentText.due("place " + p + ", " + what, x.ofPlace(p, what), wants[p][what]);
            }
        }
        DocumentText.due("paths", x.paths(0, 2), 3);
    }

    private static void kinds() {
        DocumentText.terms(1, "Kinds: 0 PLAIN (p); 1 BROAD (b), a PLAIN one; 2 DOUBLE (d), a BROAD one.");
        ToppleYard x = Check.withYard(Scene.MIXED);
        int[][] are = {{1, -12, -12}, {1, 1, -12}, {1, 1, 1}};
        for (int p = 0; p < 3; p++) {
            DocumentText.due("kind of place " + p, x.ofPlace(p, 0), p);
            for (int kind = 0; kind <= 2; kind++) {
                DocumentText.due("place " + p + " as " + kind, x.as(p, kind), are[p][kind]);
            }
        }
    }

    private static void shut() {
        DocumentText.terms(1, "A PLACE is SHUT, if no PATHS lead from it to the PIT (by other PLACES, too).");
        dueText("y20;p10;p00", -201);
        dueText("y21;p10;p00", 2);
        dueText("y21;p00;p10", 2);
        dueText("y21;p00;p00", -200);
        // 0 - 1 - 2 - 3 - 4 - pit, and the other way about
        dueText("y51000100101;p00;p00;p00;p00;p10", 5);
        dueText("y51000100101;p10;p00;p00;p00;p00", 5);
        dueText("y51000100100;p00;p00;p00;p00;p10", -200);
        dueText("y51000100100;p10;p00;p00;p00;p00", -204);
    }

    private static void anew() {
        DocumentText.terms(1, "A TEXT that is taken makes all anew: nothing has FALLEN, no TOPPLINGS, no READINGS.");
        ToppleYard x = Scene.inUse();
        int[] before = {3, 9, 1, 2, 2};
        for (int what = 0; what <= 4; what++) {
            DocumentText.due("before, many " + what, x.many(what), before[what]);
        }
        DocumentText.due("taken", Check.yardOf(x, Scene.MIXED), 3);
        int[] then = {3, 8, 0, 0, 0};
        for (int what = 0; what <= 4; what++) {
            DocumentText.due("then, many " + what, x.many(what), then[what]);
        }
        int[] heaps = {1, 2, 5};
        for (int p = 0; p < 3; p++) {
            DocumentText.due("heap of place " + p, x.ofPlace(p, 2), heaps[p]);
            DocumentText.due("topplings of place " + p, x.ofPlace(p, 5), 0);
            DocumentText.due("kinds by no readings", x.kinds(p), 7);
        }
        DocumentText.due("the next reading", x.reading(0, 0), 0);
        DocumentText.due("fewer places", Check.yardOf(x, TWO), 2);
        DocumentText.due("the third is none", x.ofPlace(2, 0), Scene.UNKNOWN);
        DocumentText.due("nothing of the one before the last", x.many(2) + x.many(3) + x.ofPlace(0, 5) + x.ofPlace(1, 5), 0);
        DocumentText.due("more places again", Check.yardOf(x, "y3000;p10;p10;p10"), 3);
        DocumentText.due("nothing of the old third", x.many(1) + x.ofPlace(2, 0) + x.ofPlace(2, 5) + x.paths(0, 2), 0);
        Scene.refusedNaming("one that is not taken", x2 -> x2.yard(1, 1, 0, 3), -100);
    }

    private static void degrees() {
        DocumentText.terms(1, "DEGREE of a PLACE: all its PATHS (to others, to the PIT). BEARS: how many grains set it off:"
                + " a PLAIN one DEGREE; a BROAD one 1 more; a DOUBLE one twice what a PLAIN one does.");
        String[] texts = {"y20;%s10;p10", "y50000000000;%s10;p10;p10;p10;p10", "y53333333333;%s30;p00;p00;p00;p00", "y21;%s00;p10"};
        int[] degrees = {1, 1, 15, 1};
        for (int t = 0; t < texts.length; t++) {
            int degree = degrees[t];
            int[] bears = {degree, degree + 1, 2 * degree};
            for (int kind = 0; kind <= 2; kind++) {
                ToppleYard x = Check.withYard(texts[t].formatted("pbd".substring(kind, kind + 1)));
                DocumentText.due(texts[t] + " degree", x.ofPlace(0, 3), degree);
                DocumentText.due(texts[t] + " bears", x.ofPlace(0, 4), bears[kind]);
                x.heap(0, bears[kind] - 1);
                DocumentText.due(texts[t] + " one less", x.topple(0), Scene.STATE);
                x.drop(0, 1);
                DocumentText.dueTrue(texts[t] + " as many", x.topple(0) >= 0);
            }
        }
    }

    private static void newObject() {
        DocumentText.promise(1, "No YARD (no PLACES), SHEETS have nothing.");
        ToppleYard x = new ToppleYard();
        for (int what = 0; what <= 4; what++) {
            DocumentText.due("many " + what, x.many(what), 0);
        }
        for (int p = -1; p <= 5; p++) {
            DocumentText.due("place " + p, x.ofPlace(p, 0), Scene.UNKNOWN);
        }
        DocumentText.due("settle", x.settle(), Scene.STATE);
        DocumentText.due("burnt", x.burnt(), Scene.STATE);
        DocumentText.due("trees", x.trees(), Scene.LOST);
        DocumentText.due("odds", x.odds(1), Scene.LOST);
        DocumentText.due("fault", x.fault(), 0);
        for (int k = 0; k <= 3; k++) {
            DocumentText.due("sheet " + k, x.put(k, 0, 1), -11);
            DocumentText.due("sheet " + k, x.lose(k), 0);
        }
        DocumentText.due("trace", x.trace(), 0);
    }

    private static void yardTaken() {
        DocumentText.promise(2, "A YARD by a TEXT of n cells of a SHEET from i on, taken as a row of a LANE: how many PLACES;");
        for (int k = 0; k <= 3; k++) {
            for (int lane = 0; lane <= 2; lane++) {
                ToppleYard x = new ToppleYard();
                DocumentText.due("the first cells", Check.yardOf(x, FIVE, k, lane, 0), 5);
                DocumentText.due("the last cells of 60", Check.yardOf(x, TWO, k, lane, 49), 2);
                x.sheet(k, lane, 60);
                for (int c = 0; c < TWO.length(); c++) {
                    x.put(k, 7 + c, TWO.charAt(c));
                }
                DocumentText.due("cells in the midst", x.yard(k, lane, 7, 11), 2);
                DocumentText.due("no cells behind them", x.yard(k, lane, 7, 10), -110);
                DocumentText.due("one behind them", x.yard(k, lane, 7, 12), -111);
                DocumentText.due("one before them", x.yard(k, lane, 6, 12), -100);
            }
        }
        DocumentText.promise(2, "-100 less the FIRST FAULT; -200 less the least PLACE that is SHUT.");
        Scene.refusedNaming("the first code", x -> x.yard(2, 2, 0, 5), -100);
        Scene.refusedNaming("a later code, from 5 on", x -> x.yard(0, 0, 5, 12), -100);
        Scene.refusedNaming("too soon", x -> x.yard(0, 0, 0, 16), -116);
        String[] texts = {"y40%s0;p00;p10;p10;p10", "y40%s0;p10;p00;p10;p10", "y40%s0;p10;p10;p00;p10", "y40%s0;p10;p10;p10;p00"};
        for (int p = 0; p < 4; p++) {
            dueText(texts[p].formatted("0000"), -200 - p);
        }
        dueText("y50000000000;p10;p10;p10;p10;p00", -204);
        dueText("y50000000000;p10;p00;p10;p00;p00", -201);
        dueText("y50000000000;p00;p00;p00;p00;p00", -200);
        dueText("y50000000000;p00;p00;p00;p00;p0", -131);
        dueText("y50000000000;p00;p00;p00;p00;p00;", -132);
        Scene.leavesAll("a shut one", YardEdges::withShutText, x -> x.yard(3, 0, 0, 11), -201, 0);
    }

    private static ToppleYard withShutText() {
        ToppleYard x = Scene.inUse();
        Check.row(x, 3, 0, "y20;d39;b09".chars().toArray());
        x.sheet(1, 0, -1);
        return x;
    }

    private static void yardRefused() {
        DocumentText.promise(2, "UNKNOWN; OUTSIDE: lane;");
        for (int k : Scene.NO_SHEETS) {
            Scene.refusedNaming("sheet " + k, x -> x.yard(k, 0, 0, 17), Scene.UNKNOWN);
        }
        for (int lane : Scene.NO_LANES) {
            Scene.refusedNaming("lane " + lane, x -> x.yard(0, lane, 0, 17), Scene.OUTSIDE);
            Scene.refusedNaming("lane " + lane + " of nothing", x -> x.yard(3, lane, -1, -1), Scene.OUTSIDE);
        }
    }

    private static void yardFaults() {
        DocumentText.promise(2, "FAULTS CAST (nothing is no CAST), NULL,");
        for (int lane = 0; lane <= 2; lane++) {
            for (int k = 0; k <= 3; k++) {
                int asked = lane;
                int sheet = k;
                if (k == 3) {
                    Scene.faulted("nothing as " + lane, x -> x.yard(sheet, asked, 0, 0), 1);
                } else if (k != lane) {
                    Scene.faulted("lane " + k + " as " + lane, x -> x.yard(sheet, asked, 0, 0), 2);
                }
            }
        }
        DocumentText.promise(2, "SIZE: n is below 0,");
        Scene.faulted("-1", x -> x.yard(0, 0, 0, -1), 4);
        Scene.faulted("-1 from the end on", x -> x.yard(0, 0, 17, -1), 4);
        Scene.faulted("least", x -> x.yard(0, 0, 0, Scene.MIN), 4);
        DocumentText.promise(2, "INDEX: not all cells are there;");
        Scene.faulted("one too many", x -> x.yard(0, 0, 0, 18), 3);
        Scene.faulted("one too far", x -> x.yard(0, 0, 1, 17), 3);
        Scene.faulted("from -1 on", x -> x.yard(0, 0, -1, 17), 3);
        Scene.faulted("from just behind the last on", x -> x.yard(0, 0, 17, 1), 3);
        Scene.faulted("i and n wrap", x -> x.yard(0, 0, 1, Scene.MAX), 3);
        Scene.faulted("i is most", x -> x.yard(0, 0, Scene.MAX, 1), 3);
        Scene.faulted("i is least", x -> x.yard(0, 0, Scene.MIN, 17), 3);
        DocumentText.promise(2, "then these.");
        Scene.faulted("cast ahead of a first fault", x -> x.yard(1, 2, 0, 3), 2);
        Scene.faulted("index ahead of a first fault", x -> x.yard(1, 1, 0, 4), 3);
        Scene.refusedNaming("then the first fault", x -> x.yard(1, 1, 0, 3), -100);
        ToppleYard taken = Scene.inUse();
        DocumentText.due("then a yard", taken.yard(0, 0, 0, 17), 3);
        DocumentText.due("and no fault", taken.fault(), 0);
    }

    private static void ofPlace() {
        DocumentText.promise(3, "Of a PLACE: 0 kind, 1 PATHS to the PIT, 2 HEAP, 3 DEGREE, 4 what it BEARS, 5 how often it TOPPLED"
                + " (by topple(), settle()).");
        ToppleYard x = Scene.inUse();
        int[][] wants = {{0, 0, 1, 3, 3, 1}, {1, 1, 1, 2, 3, 1}, {2, 2, 7, 4, 8, 0}};
        for (int p = 0; p < 3; p++) {
            for (int what = 0; what <= 5; what++) {
                DocumentText.due("place " + p + ", " + what, x.ofPlace(p, what), wants[p][what]);
            }
        }
        x.spill(2, 0);
        x.again(2, 0);
        x.day(2, 2, 0, 1, 0);
        x.kinds(2);
        x.heapings(2);
        DocumentText.due("not toppled by others", x.ofPlace(2, 5), 0);
        x.heap(2, 8);
        x.settle();
        DocumentText.due("toppled by settle", x.ofPlace(2, 5), 1);
        DocumentText.due("toppled by both", x.ofPlace(0, 5), 2);
        DocumentText.promise(3, "UNKNOWN; OUTSIDE.");
        for (int p : Scene.NO_PLACES) {
            Scene.refused("place " + p, y -> y.ofPlace(p, 0), Scene.UNKNOWN);
        }
        for (int what : new int[] {-1, 6, Scene.MIN, Scene.MAX}) {
            Scene.refused("what " + what, y -> y.ofPlace(0, what), Scene.OUTSIDE);
        }
        Scene.refused("no yard", Scene::noYard, y -> y.ofPlace(0, 0), Scene.UNKNOWN);
        ToppleYard two = Check.withYard(TWO);
        DocumentText.due("2 places, the last", two.ofPlace(1, 2), 2);
        DocumentText.due("2 places, one beyond", two.ofPlace(2, 2), Scene.UNKNOWN);
        ToppleYard five = Check.withYard(FIVE);
        DocumentText.due("5 places, the last", five.ofPlace(4, 2), 9);
        DocumentText.due("5 places, one beyond", five.ofPlace(5, 2), Scene.UNKNOWN);
    }

    private static void paths() {
        DocumentText.promise(4, "PATHS between two PLACES. UNKNOWN: either, both the same.");
        ToppleYard x = Check.withYard(Scene.MIXED);
        int[][] wants = {{-1, 1, 2}, {1, -1, 0}, {2, 0, -1}};
        for (int a = 0; a < 3; a++) {
            for (int b = 0; b < 3; b++) {
                DocumentText.due("paths " + a + ", " + b, x.paths(a, b), wants[a][b]);
            }
        }
        for (int p : Scene.NO_PLACES) {
            Scene.refused("the first is " + p, y -> y.paths(p, 0), Scene.UNKNOWN);
            Scene.refused("the second is " + p, y -> y.paths(0, p), Scene.UNKNOWN);
            Scene.refused("both are " + p, y -> y.paths(p, p), Scene.UNKNOWN);
        }
        for (int p = 0; p < 3; p++) {
            int same = p;
            Scene.refused("the same, " + p, y -> y.paths(same, same), Scene.UNKNOWN);
        }
        Scene.refused("no yard", Scene::noYard, y -> y.paths(0, 1), Scene.UNKNOWN);
        DocumentText.due("most paths, the last two", Check.withYard("y50000000003;p10;p10;p10;p10;p10").paths(4, 3), 3);
    }

    private static void heap() {
        DocumentText.promise(5, "HEAP of a PLACE becomes v (0 .. 99): what it was.");
        ToppleYard x = Check.withYard(Scene.MIXED);
        for (int p = 0; p < 3; p++) {
            DocumentText.due("0", x.heap(p, 0), new int[] {1, 2, 5}[p]);
            DocumentText.due("is 0", x.ofPlace(p, 2), 0);
            DocumentText.due("99", x.heap(p, 99), 0);
            DocumentText.due("is 99", x.ofPlace(p, 2), 99);
            DocumentText.due("the same again", x.heap(p, 99), 99);
        }
        DocumentText.due("was 999", Scene.full().heap(0, 0), 999);
        DocumentText.promise(5, "UNKNOWN; OUTSIDE.");
        for (int v : new int[] {-1, 100, Scene.MIN, Scene.MAX}) {
            Scene.refused("heap " + v, y -> y.heap(0, v), Scene.OUTSIDE);
        }
        for (int p : Scene.NO_PLACES) {
            Scene.refused("place " + p, y -> y.heap(p, 5), Scene.UNKNOWN);
        }
        Scene.refused("no yard", Scene::noYard, y -> y.heap(0, 0), Scene.UNKNOWN);
    }
}
