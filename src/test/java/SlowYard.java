import java.util.ArrayList;
import java.util.HashMap;
import java.util.List;
import java.util.Map;
import java.util.regex.Pattern;

/**
 * The document once more, written another way and with no thought for speed: heaps topple one by one,
 * from the last place to the first; trees are counted by choosing a path for each place; alike heaps are
 * found by the one recurrent row that each class of heaps has; texts are matched by patterns.
 */
final class SlowYard {
    static final int UNKNOWN = -1, OUTSIDE = -2, STATE = -3, FULL = -4, NONE = -9;
    static final long LOST = Long.MIN_VALUE;

    private static final class Shape {
        int places;
        int[][] paths = new int[5][5];
        int[] pit = new int[5];
        int[] kind = new int[5];

        int degree(int p) {
            int sum = pit[p];
            for (int q = 0; q < places; q++) {
                sum += paths[p][q];
            }
            return sum;
        }

        int bears(int p) {
            return kind[p] == 0 ? degree(p) : kind[p] == 1 ? degree(p) + 1 : 2 * degree(p);
        }
    }

    private static final class Pile {
        final int[] h;
        final int[] often = new int[5];
        int fallen;
        int topplings;

        Pile(int[] h) {
            this.h = h.clone();
        }

        boolean can(Shape s, int p) {
            return h[p] >= s.bears(p);
        }

        void topple(Shape s, int p) {
            h[p] -= s.degree(p);
            for (int q = 0; q < s.places; q++) {
                h[q] += s.paths[p][q];
            }
            fallen += s.pit[p];
            often[p]++;
            topplings++;
        }

        int settle(Shape s) {
            int before = topplings;
            int p = s.places - 1;
            while (p >= 0) {
                if (can(s, p)) {
                    topple(s, p);
                    p = s.places - 1;
                } else {
                    p--;
                }
            }
            return topplings - before;
        }
    }

    private Shape shape = new Shape();
    private Pile pile = new Pile(new int[5]);
    private final int[][] rows = new int[4][];
    private final int[] lanes = new int[4];
    private final List<int[]> readings = new ArrayList<>();
    private int trace;
    private int fault;

    private int fail(int f) {
        fault = f;
        return -10 - f;
    }

    private boolean place(int p) {
        return 0 <= p && p < shape.places;
    }

    private static boolean in(long v, long a, long b) {
        return a <= v && v <= b;
    }

    /** 0, or the fault of taking cells. */
    private int take(int sheet, int lane, int i, long n) {
        if (rows[sheet] != null && lanes[sheet] != lane) {
            return 2;
        }
        if (rows[sheet] == null) {
            return 1;
        }
        if (n < 0) {
            return 4;
        }
        return in(i, 0, rows[sheet].length) && i + n <= rows[sheet].length ? 0 : 3;
    }

    int yard(int sheet, int lane, int i, int n) {
        fault = 0;
        if (!in(sheet, 0, 3)) {
            return UNKNOWN;
        }
        if (!in(lane, 0, 2)) {
            return OUTSIDE;
        }
        int f = take(sheet, lane, i, n);
        if (f != 0) {
            return fail(f);
        }
        StringBuilder text = new StringBuilder();
        for (int c = 0; c < n; c++) {
            int code = rows[sheet][i + c];
            text.append(in(code, 1, 126) ? (char) code : '#');
        }
        int good = longestBegin(text.toString());
        if (good < n || !whole(text.toString())) {
            return -100 - good;
        }
        return takeText(text.toString());
    }

    private static String pattern(int places) {
        return "y" + places + "[0-3]{" + places * (places - 1) / 2 + "}(;[pbd][0-3][0-9]){" + places + "}";
    }

    private static boolean whole(String text) {
        for (int places = 2; places <= 5; places++) {
            if (Pattern.matches(pattern(places), text)) {
                return true;
            }
        }
        return false;
    }

    /** How many codes there are with which some text begins. */
    private static int longestBegin(String text) {
        int longest = 0;
        for (int n = 1; n <= text.length(); n++) {
            boolean begins = false;
            for (int places = 2; places <= 5; places++) {
                java.util.regex.Matcher m = Pattern.compile(pattern(places)).matcher(text.substring(0, n));
                begins |= m.matches() || m.hitEnd();
            }
            if (!begins) {
                return longest;
            }
            longest = n;
        }
        return longest;
    }

    private int takeText(String text) {
        Shape s = new Shape();
        s.places = text.charAt(1) - '0';
        int at = 2;
        for (int a = 0; a < s.places; a++) {
            for (int b = a + 1; b < s.places; b++) {
                s.paths[a][b] = s.paths[b][a] = text.charAt(at++) - '0';
            }
        }
        int[] h = new int[5];
        for (int p = 0; p < s.places; p++) {
            s.kind[p] = "pbd".indexOf(text.charAt(at + 1));
            s.pit[p] = text.charAt(at + 2) - '0';
            h[p] = text.charAt(at + 3) - '0';
            at += 4;
        }
        for (int p = 0; p < s.places; p++) {
            if (!leads(s, p, new boolean[5])) {
                return -200 - p;
            }
        }
        shape = s;
        pile = new Pile(h);
        readings.clear();
        return s.places;
    }

    private static boolean leads(Shape s, int p, boolean[] been) {
        if (s.pit[p] > 0) {
            return true;
        }
        been[p] = true;
        for (int q = 0; q < s.places; q++) {
            if (!been[q] && s.paths[p][q] > 0 && leads(s, q, been)) {
                return true;
            }
        }
        return false;
    }

    int ofPlace(int p, int what) {
        if (!place(p)) {
            return UNKNOWN;
        }
        int[] all = new int[6];
        all[0] = shape.kind[p];
        all[1] = shape.pit[p];
        all[2] = pile.h[p];
        all[3] = shape.degree(p);
        all[4] = shape.bears(p);
        all[5] = pile.often[p];
        return in(what, 0, 5) ? all[what] : OUTSIDE;
    }

    int paths(int a, int b) {
        return place(a) && place(b) && a != b ? shape.paths[a][b] : UNKNOWN;
    }

    int heap(int p, int v) {
        if (!place(p)) {
            return UNKNOWN;
        }
        if (!in(v, 0, 99)) {
            return OUTSIDE;
        }
        int was = pile.h[p];
        pile.h[p] = v;
        return was;
    }

    int drop(int p, int n) {
        if (!place(p)) {
            return UNKNOWN;
        }
        if (!in(n, 1, 99)) {
            return OUTSIDE;
        }
        if (pile.h[p] + n > 999) {
            return FULL;
        }
        return pile.h[p] += n;
    }

    int topple(int p) {
        if (!place(p)) {
            return UNKNOWN;
        }
        if (!pile.can(shape, p)) {
            return STATE;
        }
        int before = pile.fallen;
        pile.topple(shape, p);
        return pile.fallen - before;
    }

    int settle() {
        return shape.places == 0 ? STATE : pile.settle(shape);
    }

    int day(int sheet, int lane, int i, int n, int what) {
        fault = 0;
        if (!in(sheet, 0, 3)) {
            return UNKNOWN;
        }
        if (!in(lane, 0, 2) || !in(n, 0, 20) || !in(what, 0, 4) && !in(what, 10, 14)) {
            return OUTSIDE;
        }
        int f = take(sheet, lane, i, 2L * n);
        if (f != 0) {
            return fail(f);
        }
        if (shape.places == 0) {
            return STATE;
        }
        for (int a = 0; a < n; a++) {
            int first = rows[sheet][i + 2 * a];
            int second = rows[sheet][i + 2 * a + 1];
            if (!in(second, 0, 2) && !in(second, 10, 14) || second == 2 && !in(first, 0, 9)
                    || in(second, 10, 14) && !in(first, 0, 99)) {
                return OUTSIDE;
            }
            if (in(second, 0, 1) && !place(first)) {
                return UNKNOWN;
            }
        }
        Pile then = new Pile(pile.h);
        int wrong = NONE;
        for (int a = 0; a < n && wrong == NONE; a++) {
            if (!act(then, rows[sheet][i + 2 * a], rows[sheet][i + 2 * a + 1])) {
                wrong = a;
            }
        }
        return ofDay(then, wrong, what);
    }

    private boolean act(Pile then, int first, int second) {
        switch (second) {
            case 0:
                if (then.h[first] >= 999) {
                    return false;
                }
                then.h[first]++;
                return true;
            case 1:
                if (!then.can(shape, first)) {
                    return false;
                }
                then.topple(shape, first);
                return true;
            case 2:
                then.settle(shape);
                then.h[0] += first;
                return true;
            default:
                if (second - 10 >= shape.places) {
                    return false;
                }
                then.h[second - 10] = first;
                return true;
        }
    }

    private int ofDay(Pile then, int wrong, int what) {
        if (what == 1) {
            return wrong;
        }
        if (wrong != NONE) {
            return -100 - wrong;
        }
        int sum = 0;
        int ready = 0;
        for (int p = 0; p < shape.places; p++) {
            sum += then.h[p];
            ready += then.can(shape, p) ? 1 << p : 0;
        }
        switch (what) {
            case 0:
                return sum;
            case 2:
                return then.topplings;
            case 3:
                return then.fallen;
            case 4:
                return ready;
            default:
                return what - 10 < shape.places ? then.h[what - 10] : NONE;
        }
    }

    private static Pile spilt(Shape s, int[] h, int p) {
        Pile then = new Pile(h);
        then.h[p]++;
        then.settle(s);
        return then;
    }

    int spill(int p, int what) {
        if (!place(p)) {
            return UNKNOWN;
        }
        if (!in(what, 0, 2)) {
            return OUTSIDE;
        }
        Pile then = spilt(shape, pile.h, p);
        int set = 0;
        for (int q = 0; q < 5; q++) {
            set += then.often[q] > 0 ? 1 << q : 0;
        }
        return what == 0 ? then.topplings : what == 1 ? then.fallen : set;
    }

    int again(int p, int what) {
        if (!place(p)) {
            return UNKNOWN;
        }
        if (!in(what, 0, 1)) {
            return OUTSIDE;
        }
        Pile then = new Pile(pile.h);
        then.settle(shape);
        Map<String, Integer> seen = new HashMap<>();
        for (int grains = 0; grains <= 500; grains++) {
            StringBuilder key = new StringBuilder();
            for (int q = 0; q < shape.places; q++) {
                key.append(then.h[q]).append(' ');
            }
            Integer first = seen.putIfAbsent(key.toString(), grains);
            if (first != null) {
                return what == 0 ? first : grains - first;
            }
            then.h[p]++;
            then.settle(shape);
        }
        return NONE;
    }

    int burnt() {
        if (shape.places == 0) {
            return STATE;
        }
        for (int p = 0; p < shape.places; p++) {
            if (pile.can(shape, p)) {
                return STATE;
            }
        }
        boolean[] fire = new boolean[5];
        boolean more = true;
        while (more) {
            more = false;
            for (int p = 0; p < shape.places; p++) {
                int sum = pile.h[p] + shape.pit[p];
                for (int q = 0; q < shape.places; q++) {
                    sum += fire[q] ? shape.paths[p][q] : 0;
                }
                if (!fire[p] && sum >= shape.bears(p)) {
                    fire[p] = true;
                    more = true;
                }
            }
        }
        int set = 0;
        for (int p = 0; p < shape.places; p++) {
            set += fire[p] ? 1 << p : 0;
        }
        return set;
    }

    long trees() {
        return shape.places == 0 ? LOST : treesFrom(0, new int[5]);
    }

    /** Each place but those before p chooses a path out; the number of choices without a ring. */
    private long treesFrom(int p, int[] next) {
        if (p == shape.places) {
            for (int q = 0; q < shape.places; q++) {
                int at = q;
                for (int step = 0; step < shape.places && at >= 0; step++) {
                    at = next[at];
                }
                if (at >= 0) {
                    return 0;
                }
            }
            return 1;
        }
        long sum = 0;
        for (int q = -1; q < shape.places; q++) {
            int ways = q < 0 ? shape.pit[p] : shape.paths[p][q];
            if (ways > 0) {
                next[p] = q;
                sum += ways * treesFrom(p + 1, next);
            }
        }
        return sum;
    }

    int alike(int sheet, int lane, int i) {
        fault = 0;
        if (shape.places == 0) {
            return STATE;
        }
        if (!in(sheet, 0, 3)) {
            return UNKNOWN;
        }
        if (!in(lane, 0, 2)) {
            return OUTSIDE;
        }
        int f = take(sheet, lane, i, shape.places);
        if (f != 0) {
            return fail(f);
        }
        int[] other = new int[5];
        for (int p = 0; p < shape.places; p++) {
            other[p] = rows[sheet][i + p];
            if (!in(other[p], 0, 999)) {
                return OUTSIDE;
            }
        }
        return java.util.Arrays.equals(recurrent(pile.h), recurrent(other)) ? 1 : 0;
    }

    /** Where all places are plain ones, each class of alike heaps has just one row that comes back. */
    private int[] recurrent(int[] h) {
        Shape plain = new Shape();
        plain.places = shape.places;
        plain.paths = shape.paths;
        plain.pit = shape.pit;
        int[] twice = new int[5];
        for (int p = 0; p < shape.places; p++) {
            twice[p] = 2 * plain.degree(p);
        }
        Pile settled = new Pile(twice);
        settled.settle(plain);
        int[] sum = new int[5];
        for (int p = 0; p < shape.places; p++) {
            sum[p] = h[p] + twice[p] - settled.h[p];
        }
        Pile then = new Pile(sum);
        then.settle(plain);
        return then.h;
    }

    int reading(int p, int topplings) {
        if (!place(p)) {
            return UNKNOWN;
        }
        if (!in(topplings, 0, 999)) {
            return OUTSIDE;
        }
        if (readings.size() == 8) {
            return FULL;
        }
        readings.add(new int[] {p, topplings});
        return readings.size() - 1;
    }

    int back(int n) {
        if (!in(n, 0, readings.size())) {
            return OUTSIDE;
        }
        for (int r = 0; r < n; r++) {
            readings.remove(readings.size() - 1);
        }
        return readings.size();
    }

    private boolean allSo(int[] h) {
        boolean all = true;
        for (int[] r : readings) {
            all &= spilt(shape, h, r[0]).topplings == r[1];
        }
        return all;
    }

    int kinds(int p) {
        if (!place(p)) {
            return UNKNOWN;
        }
        int own = shape.kind[p];
        int set = 0;
        for (int kind = 0; kind <= 2; kind++) {
            shape.kind[p] = kind;
            set += allSo(pile.h) ? 1 << kind : 0;
        }
        shape.kind[p] = own;
        return set;
    }

    int heapings(int p) {
        if (!place(p)) {
            return UNKNOWN;
        }
        int set = 0;
        for (int v = 0; v <= 19; v++) {
            int[] h = pile.h.clone();
            h[p] = v;
            set += allSo(h) ? 1 << v : 0;
        }
        return set;
    }

    long odds(int which) {
        if (!in(which, 0, 1) || shape.places == 0) {
            return LOST;
        }
        int upper = 0;
        for (int p = 0; p < shape.places; p++) {
            upper += spilt(shape, pile.h, p).topplings > 0 ? 1 : 0;
        }
        int common = java.math.BigInteger.valueOf(upper).gcd(java.math.BigInteger.valueOf(shape.places)).intValue();
        return (which == 0 ? upper : shape.places) / common;
    }

    int sheet(int k, int lane, int n) {
        fault = 0;
        if (!in(k, 0, 3)) {
            return UNKNOWN;
        }
        if (!in(lane, 0, 2) || n > 60) {
            return OUTSIDE;
        }
        if (n < 0) {
            return fail(4);
        }
        rows[k] = new int[n];
        lanes[k] = lane;
        return 1;
    }

    int lose(int k) {
        if (!in(k, 0, 3)) {
            return UNKNOWN;
        }
        int had = rows[k] == null ? 0 : 1;
        rows[k] = null;
        return had;
    }

    int put(int k, int i, int v) {
        fault = 0;
        if (!in(k, 0, 3)) {
            return UNKNOWN;
        }
        if (rows[k] == null) {
            return fail(1);
        }
        if (!in(i, 0, rows[k].length - 1)) {
            return fail(3);
        }
        rows[k][i] = lanes[k] == 0 ? (byte) v : lanes[k] == 1 ? (short) v : v;
        return 1;
    }

    long cell(int k, int i, int lane) {
        fault = 0;
        if (!in(k, 0, 3) || !in(lane, 0, 2)) {
            return LOST;
        }
        int f = take(k, lane, i, 1);
        if (f != 0) {
            fail(f);
            return LOST;
        }
        return rows[k][i];
    }

    int copy(int k, int i, int other, int j, int n) {
        fault = 0;
        if (!in(k, 0, 3) || !in(other, 0, 3)) {
            return UNKNOWN;
        }
        if (rows[k] == null || rows[other] == null) {
            return fail(1);
        }
        if (lanes[k] != lanes[other]) {
            return fail(2);
        }
        if (i < 0 || j < 0 || n < 0 || (long) i + n > rows[k].length || (long) j + n > rows[other].length) {
            return fail(3);
        }
        int[] were = rows[k].clone();
        for (int c = 0; c < n; c++) {
            rows[other][j + c] = were[i + c];
        }
        return n;
    }

    private void mark(int number) {
        trace = trace * 31 + number;
    }

    int tell(int p) {
        if (!place(p)) {
            return UNKNOWN;
        }
        int[][] bodies = {{1}, {2, 1}, {3, 2, 1, 1}};
        for (int body : bodies[shape.kind[p]]) {
            mark(body);
        }
        int h = pile.h[p];
        return shape.kind[p] == 0 ? h : shape.kind[p] == 1 ? h + 100 : 2 * h + 100;
    }

    int strike(int p) {
        if (!place(p)) {
            return UNKNOWN;
        }
        mark(shape.kind[p] == 2 ? 5 : 4);
        return shape.kind[p] == 2 ? 60 : shape.pit[p];
    }

    int as(int p, int kind) {
        fault = 0;
        if (!place(p)) {
            return UNKNOWN;
        }
        if (!in(kind, 0, 2)) {
            return OUTSIDE;
        }
        return kind <= shape.kind[p] ? 1 : fail(2);
    }

    int trace() {
        return trace;
    }

    int fault() {
        return fault;
    }

    int many(int what) {
        if (!in(what, 0, 4)) {
            return OUTSIDE;
        }
        int sum = 0;
        for (int p = 0; p < shape.places; p++) {
            sum += pile.h[p];
        }
        return new int[] {shape.places, sum, pile.fallen, pile.topplings, readings.size()}[what];
    }
}
