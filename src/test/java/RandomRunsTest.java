import java.util.Random;

/** Long runs of drawn calls, the same ones each time, on the class and on the slow one beside it. */
public final class RandomRunsTest {
    private static final int RUNS = 1500, CALLS = 512;

    private final Random random;
    private final String name;
    private final ToppleYard x = new ToppleYard();
    private final SlowYard y = new SlowYard();
    private final boolean high;
    private int calls = 0;

    private RandomRunsTest(int run) {
        random = new Random(77000L + run);
        name = "run " + run;
        high = run % 25 == 0;
    }

    public static void main(String[] args) {
        for (int run = 0; run < RUNS; run++) {
            new RandomRunsTest(run).go();
        }
        Check.end("RandomRunsTest");
    }

    private void go() {
        if (chance(90)) {
            newYard();
        }
        while (calls < CALLS) {
            step();
            if (chance(20)) {
                lookAround();
            }
        }
    }

    private boolean chance(int percent) {
        return random.nextInt(100) < percent;
    }

    private int from(int a, int b) {
        return a + random.nextInt(b - a + 1);
    }

    private int wild() {
        int[] all = {-1, -2, -100, 5, 60, 61, 100, 1000, Integer.MAX_VALUE, Integer.MIN_VALUE, 0x40000000, -0x40000000};
        return all[random.nextInt(all.length)];
    }

    private int mostly(int a, int b) {
        return chance(96) ? from(a, b) : chance(50) ? (chance(50) ? a - 1 : b + 1) : wild();
    }

    private void due(String call, long got, long want) {
        calls++;
        Check.due(name + ", call " + calls + ": " + call, got, want);
    }

    private String drawnText() {
        int places = from(2, 5);
        StringBuilder text = new StringBuilder("y").append(places);
        for (int k = 0; k < places * (places - 1) / 2; k++) {
            text.append(chance(35) ? 0 : from(1, 3));
        }
        for (int p = 0; p < places; p++) {
            text.append(';').append("pbd".charAt(chance(50) ? 0 : from(0, 2)));
            text.append(chance(55) ? 0 : from(1, 3)).append(from(0, 9));
        }
        return text.toString();
    }

    private String spoilt(String text) {
        StringBuilder sb = new StringBuilder(text);
        int at = from(0, sb.length() - 1);
        switch (from(0, 3)) {
            case 0:
                sb.setCharAt(at, "y0123456789;pbd:/caeqx14".charAt(from(0, 23)));
                break;
            case 1:
                sb.setLength(at);
                break;
            case 2:
                sb.append("y;0pd".charAt(from(0, 4)));
                break;
            default:
                sb.deleteCharAt(at);
        }
        return sb.toString();
    }

    private void newYard() {
        String text = chance(30) ? spoilt(drawnText()) : drawnText();
        int k = from(0, 3);
        int lane = from(0, 2);
        int i = chance(70) ? 0 : from(0, 5);
        int length = i + text.length() + (chance(80) ? 0 : from(0, 9));
        due("sheet", x.sheet(k, lane, length), y.sheet(k, lane, length));
        for (int c = 0; c < text.length(); c++) {
            due("put", x.put(k, i + c, text.charAt(c)), y.put(k, i + c, text.charAt(c)));
        }
        int n = chance(95) ? text.length() : mostly(0, length);
        int asked = chance(97) ? lane : mostly(0, 2);
        due("yard " + text, x.yard(k, asked, i, n), y.yard(k, asked, i, n));
        due("fault", x.fault(), y.fault());
    }

    private void lookAround() {
        int p = mostly(0, 4);
        int what = mostly(0, 5);
        due("ofPlace", x.ofPlace(p, what), y.ofPlace(p, what));
        due("many", x.many(what), y.many(what));
        due("fault", x.fault(), y.fault());
        due("trace", x.trace(), y.trace());
    }

    private void step() {
        int p = mostly(0, 4);
        switch (from(0, 20)) {
            case 0:
                if (chance(20)) {
                    newYard();
                }
                break;
            case 1: {
                int b = mostly(0, 4);
                due("paths", x.paths(p, b), y.paths(p, b));
                break;
            }
            case 2: {
                int v = chance(70) ? from(0, 12) : mostly(0, 99);
                due("heap", x.heap(p, v), y.heap(p, v));
                break;
            }
            case 3:
            case 4:
                dropSome(p);
                break;
            case 5:
                due("topple " + p, x.topple(p), y.topple(p));
                break;
            case 6:
                if (!high || chance(15)) {
                    due("settle", x.settle(), y.settle());
                }
                break;
            case 7:
            case 8:
                tellDay();
                break;
            case 9: {
                int what = mostly(0, 2);
                due("spill " + p + " " + what, x.spill(p, what), y.spill(p, what));
                break;
            }
            case 10: {
                int what = mostly(0, 1);
                if (!high && chance(30)) {
                    due("again " + p + " " + what, x.again(p, what), y.again(p, what));
                }
                break;
            }
            case 11:
                due("burnt", x.burnt(), y.burnt());
                due("trees", x.trees(), y.trees());
                break;
            case 12:
                askAlike();
                break;
            case 13:
            case 14:
                askReadings(p);
                break;
            case 15: {
                int which = mostly(0, 1);
                due("odds", x.odds(which), y.odds(which));
                break;
            }
            case 16:
            case 17:
                useSheets();
                break;
            case 18:
                due("tell", x.tell(p), y.tell(p));
                due("strike", x.strike(p), y.strike(p));
                break;
            case 19: {
                int kind = mostly(0, 2);
                due("as", x.as(p, kind), y.as(p, kind));
                break;
            }
            default:
                lookAround();
        }
    }

    private void dropSome(int p) {
        int times = high ? 12 : 1;
        for (int t = 0; t < times; t++) {
            int n = high ? mostly(60, 99) : chance(80) ? from(1, 9) : mostly(1, 99);
            due("drop " + p + " " + n, x.drop(p, n), y.drop(p, n));
        }
    }

    private void tellDay() {
        int lane = from(0, 2);
        int k = from(0, 3);
        int n = from(0, 6);
        due("sheet", x.sheet(k, lane, 2 * n), y.sheet(k, lane, 2 * n));
        for (int a = 0; a < n; a++) {
            int second = chance(40) ? 0 : chance(50) ? from(1, 2) : chance(95) ? from(10, 14) : wild();
            int first = second < 2 ? from(0, chance(90) ? 1 : 4) : second == 2 ? mostly(0, 9) : mostly(0, 99);
            due("put", x.put(k, 2 * a, first), y.put(k, 2 * a, first));
            due("put", x.put(k, 2 * a + 1, second), y.put(k, 2 * a + 1, second));
        }
        for (int t = 0; t < 3; t++) {
            int what = chance(40) ? mostly(10, 14) : mostly(0, 4);
            int asked = chance(97) ? lane : mostly(0, 2);
            int i = chance(95) ? 0 : mostly(0, 12);
            int pairs = chance(95) ? n : mostly(0, 20);
            int sheet = chance(97) ? k : mostly(0, 3);
            due("day " + what, x.day(sheet, asked, i, pairs, what), y.day(sheet, asked, i, pairs, what));
            due("fault", x.fault(), y.fault());
        }
    }

    /** Heaps that are likely alike: those of now, some places toppled forth or back. */
    private void askAlike() {
        int k = from(0, 3);
        int lane = from(1, 2);
        int places = Math.max(2, x.many(0));
        int i = chance(80) ? 0 : from(0, 3);
        int[] told = new int[places];
        for (int p = 0; p < places; p++) {
            told[p] = Math.max(0, x.ofPlace(p, 2));
        }
        for (int t = 0; t < 3; t++) {
            int p = from(0, places - 1);
            int times = from(-2, 2);
            told[p] -= times * Math.max(0, x.ofPlace(p, 3));
            for (int q = 0; q < places; q++) {
                told[q] += times * Math.max(0, x.paths(p, q));
            }
        }
        if (chance(25)) {
            told[from(0, places - 1)] += from(-1, 1);
        }
        due("sheet", x.sheet(k, lane, i + places), y.sheet(k, lane, i + places));
        for (int p = 0; p < places; p++) {
            due("put", x.put(k, i + p, told[p]), y.put(k, i + p, told[p]));
        }
        int sheet = chance(97) ? k : mostly(0, 3);
        int asked = chance(97) ? lane : mostly(0, 2);
        int start = chance(97) ? i : mostly(0, 9);
        due("alike", x.alike(sheet, asked, start), y.alike(sheet, asked, start));
        due("fault", x.fault(), y.fault());
    }

    private void askReadings(int p) {
        if (chance(50)) {
            int told = chance(70) ? Math.max(0, x.spill(p, 0)) : chance(80) ? from(0, 5) : mostly(0, 999);
            due("reading", x.reading(p, told), y.reading(p, told));
        }
        if (chance(20)) {
            int n = chance(60) ? mostly(0, 2) : mostly(0, 8);
            due("back", x.back(n), y.back(n));
        }
        if (!high || chance(5)) {
            int q = mostly(0, 4);
            due("kinds " + q, x.kinds(q), y.kinds(q));
            due("heapings " + q, x.heapings(q), y.heapings(q));
        }
    }

    private void useSheets() {
        int k = mostly(0, 3);
        int lane = mostly(0, 2);
        int i = mostly(0, 12);
        switch (from(0, 4)) {
            case 0: {
                int n = chance(70) ? from(0, 12) : mostly(0, 60);
                due("sheet", x.sheet(k, lane, n), y.sheet(k, lane, n));
                break;
            }
            case 1:
                due("lose", x.lose(k), y.lose(k));
                break;
            case 2: {
                int v = chance(60) ? mostly(-300, 300) : random.nextInt();
                due("put", x.put(k, i, v), y.put(k, i, v));
                break;
            }
            case 3:
                due("cell", x.cell(k, i, lane), y.cell(k, i, lane));
                break;
            default: {
                int other = mostly(0, 3);
                int j = mostly(0, 12);
                int n = mostly(0, 12);
                due("copy", x.copy(k, i, other, j, n), y.copy(k, i, other, j, n));
            }
        }
        due("fault", x.fault(), y.fault());
        for (int c = 0; c < 3; c++) {
            int at = from(0, 14);
            int of = from(0, 3);
            int as = from(0, 2);
            due("cell", x.cell(of, at, as), y.cell(of, at, as));
        }
    }
}
