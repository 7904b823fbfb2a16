import java.util.Arrays;

/**
 * Heaps that topple: a yard of places with paths between them and down to a pit, and on each place a
 * heap of grains. The document's numbered promises say what each call answers.
 */
public final class ToppleYard {
    public static final int UNKNOWN = -1, OUTSIDE = -2, STATE = -3, FULL = -4, NONE = -9;
    public static final long LOST = Long.MIN_VALUE;

    private static final int NULL_FAULT = 1, CAST_FAULT = 2, INDEX_FAULT = 3, SIZE_FAULT = 4;
    private static final int BELOW_FAULTS = -10, BELOW_FIRST = -100, BELOW_SHUT = -200;

    private static final int PLAIN = 0, BROAD = 1, DOUBLE = 2;
    private static final int BYTES = 0, SHORTS = 1, INTS = 2;

    private static final int MOST_PLACES = 5;
    private static final int MOST_TOLD = 99, MOST_GRAINS = 999;
    private static final int MOST_SHEETS = 4, MOST_CELLS = 60;
    private static final int MOST_READINGS = 8, MOST_TOPPLINGS = 999;
    private static final int MOST_PAIRS = 20;
    private static final int MOST_AGAIN = 500;
    private static final int HEAPS_TRIED = 20;

    private static final int ACT_DROP = 0, ACT_TOPPLE = 1, ACT_SETTLE = 2, ACT_HEAP = 10;
    private static final int DAY_GRAINS = 0, DAY_WRONG = 1, DAY_TOPPLINGS = 2, DAY_FALLEN = 3;
    private static final int DAY_READY = 4, DAY_HEAP = 10;

    // Far above what any run needs: even some 50,000 grains are settled in some hundreds of rounds.
    private static final int MOST_ROUNDS = 1000000;

    private final Sheet[] sheets = new Sheet[MOST_SHEETS];
    private final Readings readings = new Readings();
    private final TextReader reader = new TextReader();
    private final Equations equations = new Equations();
    private final Heaps trial = new Heaps();
    private final int[] seen = new int[MOST_AGAIN + 1];

    // The drafts take a text while it is read, so that one that isn't taken leaves all as it was.
    private Ground ground = new Ground();
    private Ground draftGround = new Ground();
    private Heaps heaps = new Heaps();
    private Heaps draftHeaps = new Heaps();

    private int traceLeft;
    private int latestFault;

    public ToppleYard() {
        for (int k = 0; k < MOST_SHEETS; k++) {
            sheets[k] = new Sheet();
        }
    }

    // ---- 1 the yard

    public int yard(int sheet, int lane, int i, int n) {
        latestFault = 0;
        if (!isSheet(sheet)) {
            return UNKNOWN;
        }
        if (!isLane(lane)) {
            return OUTSIDE;
        }
        int found = sheets[sheet].faultOfCells(lane, i, n);
        if (found != 0) {
            return faulted(found);
        }
        if (!reader.isText(sheets[sheet].cells, i, n, draftGround, draftHeaps)) {
            return BELOW_FIRST - reader.at;
        }
        int shut = draftGround.leastShut();
        if (shut != NONE) {
            return BELOW_SHUT - shut;
        }
        takeDrafts();
        return ground.places;
    }

    public int ofPlace(int p, int what) {
        if (!ground.isPlace(p)) {
            return UNKNOWN;
        }
        switch (what) {
            case 0:
                return ground.kind[p];
            case 1:
                return ground.toPit[p];
            case 2:
                return heaps.height[p];
            case 3:
                return ground.degree[p];
            case 4:
                return ground.bears[p];
            case 5:
                return heaps.toppled[p];
            default:
                return OUTSIDE;
        }
    }

    public int paths(int a, int b) {
        if (!ground.isPlace(a) || !ground.isPlace(b) || a == b) {
            return UNKNOWN;
        }
        return ground.between[a][b];
    }

    public int heap(int p, int v) {
        if (!ground.isPlace(p)) {
            return UNKNOWN;
        }
        if (v < 0 || v > MOST_TOLD) {
            return OUTSIDE;
        }
        int was = heaps.height[p];
        heaps.height[p] = v;
        return was;
    }

    // ---- 2 grains

    public int drop(int p, int n) {
        if (!ground.isPlace(p)) {
            return UNKNOWN;
        }
        if (n < 1 || n > MOST_TOLD) {
            return OUTSIDE;
        }
        if (!heaps.takesGrains(p, n)) {
            return FULL;
        }
        return heaps.height[p];
    }

    public int topple(int p) {
        if (!ground.isPlace(p)) {
            return UNKNOWN;
        }
        if (!heaps.isReady(ground, p)) {
            return STATE;
        }
        heaps.giveAlongPaths(ground, p, 1);
        return ground.toPit[p];
    }

    public int settle() {
        if (hasNoYard()) {
            return STATE;
        }
        return heaps.giveTillSettled(ground);
    }

    public int day(int sheet, int lane, int i, int n, int what) {
        latestFault = 0;
        if (!isSheet(sheet)) {
            return UNKNOWN;
        }
        if (!isLane(lane) || n < 0 || n > MOST_PAIRS || !isAskedOfDay(what)) {
            return OUTSIDE;
        }
        int found = sheets[sheet].faultOfCells(lane, i, 2 * n);
        if (found != 0) {
            return faulted(found);
        }
        if (hasNoYard()) {
            return STATE;
        }
        int[] cells = sheets[sheet].cells;
        int refusal = refusalOfPairs(cells, i, n);
        if (refusal != 0) {
            return refusal;
        }
        trial.startFrom(heaps);
        return answerOfDay(firstWrong(cells, i, n), what);
    }

    // ---- 3 what comes of it

    public int spill(int p, int what) {
        if (!ground.isPlace(p)) {
            return UNKNOWN;
        }
        if (what < 0 || what > 2) {
            return OUTSIDE;
        }
        trial.startFrom(heaps);
        trial.height[p]++;
        trial.giveTillSettled(ground);
        if (what == 0) {
            return trial.topplings;
        }
        return what == 1 ? trial.fallen : trial.setOfToppled(ground);
    }

    public int again(int p, int what) {
        if (!ground.isPlace(p)) {
            return UNKNOWN;
        }
        if (what < 0 || what > 1) {
            return OUTSIDE;
        }
        trial.startFrom(heaps);
        trial.giveTillSettled(ground);
        seen[0] = trial.packed(ground);
        for (int grains = 1; grains <= MOST_AGAIN; grains++) {
            trial.height[p]++;
            trial.giveTillSettled(ground);
            seen[grains] = trial.packed(ground);
            int first = firstSeen(grains);
            if (first < grains) {
                return what == 0 ? first : grains - first;
            }
        }
        return NONE;
    }

    public int burnt() {
        if (hasNoYard() || heaps.setOfReady(ground) != 0) {
            return STATE;
        }
        int fire = 0;
        for (int round = 0; round < ground.places; round++) {
            for (int p = 0; p < ground.places; p++) {
                int heat = heaps.height[p] + ground.toPit[p] + ground.pathsInto(p, fire);
                if (heat >= ground.bears[p]) {
                    fire |= 1 << p;
                }
            }
        }
        return fire;
    }

    public long trees() {
        if (hasNoYard()) {
            return LOST;
        }
        equations.layOut(ground);
        equations.reduce();
        return equations.determinant();
    }

    public int alike(int sheet, int lane, int i) {
        latestFault = 0;
        if (hasNoYard()) {
            return STATE;
        }
        if (!isSheet(sheet)) {
            return UNKNOWN;
        }
        if (!isLane(lane)) {
            return OUTSIDE;
        }
        int found = sheets[sheet].faultOfCells(lane, i, ground.places);
        if (found != 0) {
            return faulted(found);
        }
        int[] cells = sheets[sheet].cells;
        for (int p = 0; p < ground.places; p++) {
            if (cells[i + p] < 0 || cells[i + p] > MOST_GRAINS) {
                return OUTSIDE;
            }
        }
        equations.layOut(ground);
        for (int p = 0; p < ground.places; p++) {
            equations.wantLoss(p, heaps.height[p] - cells[i + p]);
        }
        equations.reduce();
        return equations.haveWholeAnswer() ? 1 : 0;
    }

    // ---- 4 what was set off

    public int reading(int p, int topplings) {
        if (!ground.isPlace(p)) {
            return UNKNOWN;
        }
        if (topplings < 0 || topplings > MOST_TOPPLINGS) {
            return OUTSIDE;
        }
        if (readings.count >= MOST_READINGS) {
            return FULL;
        }
        readings.note(p, topplings);
        return readings.count - 1;
    }

    public int back(int n) {
        if (n < 0 || n > readings.count) {
            return OUTSIDE;
        }
        readings.count -= n;
        return readings.count;
    }

    public int kinds(int p) {
        if (!ground.isPlace(p)) {
            return UNKNOWN;
        }
        int own = ground.kind[p];
        int set = 0;
        for (int kind = PLAIN; kind <= DOUBLE; kind++) {
            ground.becomeKind(p, kind);
            if (readings.areAllSo(ground, heaps)) {
                set |= 1 << kind;
            }
        }
        ground.becomeKind(p, own);
        return set;
    }

    public int heapings(int p) {
        if (!ground.isPlace(p)) {
            return UNKNOWN;
        }
        trial.startFrom(heaps);
        int set = 0;
        for (int grains = 0; grains < HEAPS_TRIED; grains++) {
            trial.height[p] = grains;
            if (readings.areAllSo(ground, trial)) {
                set |= 1 << grains;
            }
        }
        return set;
    }

    public long odds(int which) {
        if (which < 0 || which > 1 || hasNoYard()) {
            return LOST;
        }
        boolean settled = heaps.setOfReady(ground) == 0;
        int upper = 0;
        for (int p = 0; p < ground.places; p++) {
            // Where all is settled, the place of the grain is the only one that can begin.
            if (!settled || heaps.height[p] + 1 >= ground.bears[p]) {
                upper++;
            }
        }
        return inLeastTerms(which == 0 ? upper : ground.places, upper, ground.places);
    }

    // ---- 5 sheets, parts

    public int sheet(int k, int lane, int n) {
        latestFault = 0;
        if (!isSheet(k)) {
            return UNKNOWN;
        }
        if (!isLane(lane) || n > MOST_CELLS) {
            return OUTSIDE;
        }
        if (n < 0) {
            return faulted(SIZE_FAULT);
        }
        sheets[k].getRow(lane, n);
        return 1;
    }

    public int lose(int k) {
        if (!isSheet(k)) {
            return UNKNOWN;
        }
        if (sheets[k].hasNothing()) {
            return 0;
        }
        sheets[k].loseRow();
        return 1;
    }

    public int put(int k, int i, int v) {
        latestFault = 0;
        if (!isSheet(k)) {
            return UNKNOWN;
        }
        int found = sheets[k].faultOfCells(sheets[k].lane, i, 1);
        if (found != 0) {
            return faulted(found);
        }
        sheets[k].cells[i] = cutToLane(v, sheets[k].lane);
        return 1;
    }

    public long cell(int k, int i, int lane) {
        latestFault = 0;
        if (!isSheet(k) || !isLane(lane)) {
            return LOST;
        }
        int found = sheets[k].faultOfCells(lane, i, 1);
        if (found != 0) {
            faulted(found);
            return LOST;
        }
        return sheets[k].cells[i];
    }

    public int copy(int k, int i, int other, int j, int n) {
        latestFault = 0;
        if (!isSheet(k) || !isSheet(other)) {
            return UNKNOWN;
        }
        Sheet from = sheets[k];
        Sheet to = sheets[other];
        if (from.hasNothing() || to.hasNothing()) {
            return faulted(NULL_FAULT);
        }
        if (from.lane != to.lane) {
            return faulted(CAST_FAULT);
        }
        if (n < 0 || !from.hasCells(i, n) || !to.hasCells(j, n)) {
            return faulted(INDEX_FAULT);
        }
        System.arraycopy(from.cells, i, to.cells, j, n);
        return n;
    }

    public int tell(int p) {
        if (!ground.isPlace(p)) {
            return UNKNOWN;
        }
        switch (ground.kind[p]) {
            case DOUBLE:
                return tellDouble(p);
            case BROAD:
                return tellBroad(p);
            default:
                return tellPlain(p);
        }
    }

    public int strike(int p) {
        if (!ground.isPlace(p)) {
            return UNKNOWN;
        }
        return ground.kind[p] == DOUBLE ? strikeDouble() : strikeLent(p);
    }

    public int as(int p, int kind) {
        latestFault = 0;
        if (!ground.isPlace(p)) {
            return UNKNOWN;
        }
        if (kind < PLAIN || kind > DOUBLE) {
            return OUTSIDE;
        }
        // Each kind is one of all the kinds below it, too.
        return ground.kind[p] >= kind ? 1 : faulted(CAST_FAULT);
    }

    public int trace() {
        return traceLeft;
    }

    public int fault() {
        return latestFault;
    }

    public int many(int what) {
        switch (what) {
            case 0:
                return ground.places;
            case 1:
                return heaps.grains(ground);
            case 2:
                return heaps.fallen;
            case 3:
                return heaps.topplings;
            case 4:
                return readings.count;
            default:
                return OUTSIDE;
        }
    }

    private boolean hasNoYard() {
        return ground.places == 0;
    }

    private static boolean isSheet(int k) {
        return k >= 0 && k < MOST_SHEETS;
    }

    private static boolean isLane(int lane) {
        return lane >= BYTES && lane <= INTS;
    }

    private static int cutToLane(int v, int lane) {
        switch (lane) {
            case BYTES:
                return (byte) v;
            case SHORTS:
                return (short) v;
            default:
                return v;
        }
    }

    private int faulted(int found) {
        latestFault = found;
        return BELOW_FAULTS - found;
    }

    private void takeDrafts() {
        Ground oldGround = ground;
        ground = draftGround;
        draftGround = oldGround;
        Heaps oldHeaps = heaps;
        heaps = draftHeaps;
        draftHeaps = oldHeaps;
        readings.count = 0;
    }

    private static boolean isAskedOfDay(int what) {
        return (what >= DAY_GRAINS && what <= DAY_READY)
                || (what >= DAY_HEAP && what < DAY_HEAP + MOST_PLACES);
    }

    private static boolean setsHeap(int act) {
        return act >= ACT_HEAP && act < ACT_HEAP + MOST_PLACES;
    }

    /** 0, if all pairs can be told: whether they can be done is asked only behind that. */
    private int refusalOfPairs(int[] cells, int i, int n) {
        for (int pair = 0; pair < n; pair++) {
            int refusal = refusalOfPair(cells[i + 2 * pair], cells[i + 2 * pair + 1]);
            if (refusal != 0) {
                return refusal;
            }
        }
        return 0;
    }

    private int refusalOfPair(int first, int act) {
        if (act == ACT_DROP || act == ACT_TOPPLE) {
            return ground.isPlace(first) ? 0 : UNKNOWN;
        }
        if (act == ACT_SETTLE) {
            return first >= 0 && first <= 9 ? 0 : OUTSIDE;
        }
        return setsHeap(act) && first >= 0 && first <= MOST_TOLD ? 0 : OUTSIDE;
    }

    private int firstWrong(int[] cells, int i, int n) {
        for (int pair = 0; pair < n; pair++) {
            if (!isDone(cells[i + 2 * pair], cells[i + 2 * pair + 1])) {
                return pair;
            }
        }
        return NONE;
    }

    private boolean isDone(int first, int act) {
        if (act == ACT_DROP) {
            return trial.takesGrains(first, 1);
        }
        if (act == ACT_TOPPLE) {
            if (!trial.isReady(ground, first)) {
                return false;
            }
            trial.giveAlongPaths(ground, first, 1);
            return true;
        }
        if (act == ACT_SETTLE) {
            trial.giveTillSettled(ground);
            return trial.takesGrains(0, first);
        }
        if (!ground.isPlace(act - ACT_HEAP)) {
            return false;
        }
        trial.height[act - ACT_HEAP] = first;
        return true;
    }

    private int answerOfDay(int wrong, int what) {
        if (what == DAY_WRONG) {
            return wrong;
        }
        if (wrong != NONE) {
            return BELOW_FIRST - wrong;
        }
        switch (what) {
            case DAY_GRAINS:
                return trial.grains(ground);
            case DAY_TOPPLINGS:
                return trial.topplings;
            case DAY_FALLEN:
                return trial.fallen;
            case DAY_READY:
                return trial.setOfReady(ground);
            default:
                return ground.isPlace(what - DAY_HEAP) ? trial.height[what - DAY_HEAP] : NONE;
        }
    }

    private int firstSeen(int last) {
        int first = 0;
        while (first < last && seen[first] != seen[last]) {
            first++;
        }
        return first;
    }

    /** A number of a share, either the upper or the lower one, as it is in least terms. */
    private static int inLeastTerms(int number, int upper, int lower) {
        for (int common = lower; common > 1; common--) {
            if (upper % common == 0 && lower % common == 0) {
                return number / common;
            }
        }
        return number;
    }

    private void leaveTrace(int body) {
        traceLeft = 31 * traceLeft + body;
    }

    private int tellPlain(int p) {
        leaveTrace(1);
        return heaps.height[p];
    }

    private int tellBroad(int p) {
        leaveTrace(2);
        return tellPlain(p) + 100;
    }

    private int tellDouble(int p) {
        leaveTrace(3);
        int broad = tellBroad(p);
        return broad + tellPlain(p);
    }

    private int strikeLent(int p) {
        leaveTrace(4);
        return ground.toPit[p];
    }

    private int strikeDouble() {
        leaveTrace(5);
        return 60;
    }

    /** A row of numbers of a lane, or nothing; the cells are made once and used for every row. */
    private static final class Sheet {
        private static final int NOTHING = -1;

        final int[] cells = new int[MOST_CELLS];
        int lane = NOTHING;
        int length;

        boolean hasNothing() {
            return lane == NOTHING;
        }

        void getRow(int newLane, int n) {
            lane = newLane;
            length = n;
            Arrays.fill(cells, 0);
        }

        void loseRow() {
            lane = NOTHING;
            length = 0;
        }

        /** Tells it without a sum, which could wrap. */
        boolean hasCells(int i, int n) {
            return i >= 0 && i <= length && n <= length - i;
        }

        /** The fault of taking n cells from i on as ones of a lane, 0 for none. */
        int faultOfCells(int asked, int i, int n) {
            if (hasNothing()) {
                return NULL_FAULT;
            }
            if (lane != asked) {
                return CAST_FAULT;
            }
            if (n < 0) {
                return SIZE_FAULT;
            }
            return hasCells(i, n) ? 0 : INDEX_FAULT;
        }
    }

    /** What of a yard stays as it is while grains move. */
    private static final class Ground {
        final int[][] between = new int[MOST_PLACES][MOST_PLACES];
        final int[] toPit = new int[MOST_PLACES];
        final int[] kind = new int[MOST_PLACES];
        final int[] degree = new int[MOST_PLACES];
        final int[] bears = new int[MOST_PLACES];
        int places;

        boolean isPlace(int p) {
            return p >= 0 && p < places;
        }

        void becomeKind(int p, int newKind) {
            kind[p] = newKind;
            switch (newKind) {
                case DOUBLE:
                    bears[p] = 2 * degree[p];
                    break;
                case BROAD:
                    bears[p] = degree[p] + 1;
                    break;
                default:
                    bears[p] = degree[p];
            }
        }

        int pathsInto(int p, int set) {
            int sum = 0;
            for (int q = 0; q < places; q++) {
                if ((set >> q & 1) == 1) {
                    sum += between[p][q];
                }
            }
            return sum;
        }

        void countDegrees() {
            for (int p = 0; p < places; p++) {
                degree[p] = toPit[p] + pathsInto(p, (1 << places) - 1);
                becomeKind(p, kind[p]);
            }
        }

        int leastShut() {
            int open = 0;
            for (int round = 0; round < places; round++) {
                for (int p = 0; p < places; p++) {
                    if (toPit[p] > 0 || pathsInto(p, open) > 0) {
                        open |= 1 << p;
                    }
                }
            }
            for (int p = 0; p < places; p++) {
                if ((open >> p & 1) == 0) {
                    return p;
                }
            }
            return NONE;
        }
    }

    /** The heaps of a ground, and what has toppled and fallen since they began. */
    private static final class Heaps {
        final int[] height = new int[MOST_PLACES];
        final int[] toppled = new int[MOST_PLACES];
        int fallen;
        int topplings;

        void forgetTopplings() {
            Arrays.fill(toppled, 0);
            fallen = 0;
            topplings = 0;
        }

        void startFrom(Heaps other) {
            System.arraycopy(other.height, 0, height, 0, MOST_PLACES);
            forgetTopplings();
        }

        boolean takesGrains(int p, int n) {
            if (height[p] + n > MOST_GRAINS) {
                return false;
            }
            height[p] += n;
            return true;
        }

        boolean isReady(Ground ground, int p) {
            return height[p] >= ground.bears[p];
        }

        void giveAlongPaths(Ground ground, int p, int times) {
            height[p] -= times * ground.degree[p];
            for (int q = 0; q < ground.places; q++) {
                height[q] += times * ground.between[p][q];
            }
            fallen += times * ground.toPit[p];
            toppled[p] += times;
            topplings += times;
        }

        /** How often a place topples before it can't any more, if nothing comes to it. */
        int timesInOneGo(Ground ground, int p) {
            int degree = ground.degree[p];
            if (!isReady(ground, p) || degree <= 0) {
                return 0;
            }
            return (height[p] - ground.bears[p]) / degree + 1;
        }

        int giveTillSettled(Ground ground) {
            int before = topplings;
            boolean moved = true;
            for (int round = 0; moved && round < MOST_ROUNDS; round++) {
                moved = false;
                for (int p = 0; p < ground.places; p++) {
                    int times = timesInOneGo(ground, p);
                    if (times > 0) {
                        giveAlongPaths(ground, p, times);
                        moved = true;
                    }
                }
            }
            return topplings - before;
        }

        int grains(Ground ground) {
            int sum = 0;
            for (int p = 0; p < ground.places; p++) {
                sum += height[p];
            }
            return sum;
        }

        int setOfReady(Ground ground) {
            int set = 0;
            for (int p = 0; p < ground.places; p++) {
                if (isReady(ground, p)) {
                    set |= 1 << p;
                }
            }
            return set;
        }

        int setOfToppled(Ground ground) {
            int set = 0;
            for (int p = 0; p < ground.places; p++) {
                if (toppled[p] > 0) {
                    set |= 1 << p;
                }
            }
            return set;
        }

        /** Settled heaps as one number: none bears more than 30, so five bits hold each. */
        int packed(Ground ground) {
            int all = 0;
            for (int p = 0; p < ground.places; p++) {
                all = all << 5 | height[p];
            }
            return all;
        }
    }

    /** Reads a text code by code; at is the first fault, once a code was none that goes on. */
    private static final class TextReader {
        private final int[] codes = new int[MOST_CELLS];
        private int count;
        private boolean wrong;
        int at;

        boolean isText(int[] cells, int from, int n, Ground ground, Heaps heaps) {
            System.arraycopy(cells, from, codes, 0, n);
            count = n;
            at = 0;
            wrong = false;
            code('y', 'y');
            ground.places = code('2', '5') - '0';
            readPaths(ground);
            for (int p = 0; p < ground.places; p++) {
                code(';', ';');
                ground.kind[p] = kindOfLetter();
                ground.toPit[p] = code('0', '3') - '0';
                heaps.height[p] = code('0', '9') - '0';
            }
            ground.countDegrees();
            heaps.forgetTopplings();
            return !wrong && at == count;
        }

        private void readPaths(Ground ground) {
            for (int a = 0; a < ground.places; a++) {
                for (int b = a + 1; b < ground.places; b++) {
                    int told = code('0', '3') - '0';
                    ground.between[a][b] = told;
                    ground.between[b][a] = told;
                }
            }
        }

        private int kindOfLetter() {
            int letter = code('b', 'p');
            switch (letter) {
                case 'p':
                    return PLAIN;
                case 'b':
                    return BROAD;
                case 'd':
                    return DOUBLE;
                default:
                    return stepBack();
            }
        }

        private int stepBack() {
            at--;
            wrong = true;
            return PLAIN;
        }

        /** The next code, or the least one that could stand there, if it is wrong or was before. */
        private int code(int least, int most) {
            if (wrong || at >= count || codes[at] < least || codes[at] > most) {
                wrong = true;
                return least;
            }
            at++;
            return codes[at - 1];
        }
    }

    /** How often each place must topple so that heaps lose what is wanted: one equation a place. */
    private static final class Equations {
        private final long[][] rows = new long[MOST_PLACES][MOST_PLACES + 1];
        private final long[] answer = new long[MOST_PLACES];
        private int places;

        void layOut(Ground ground) {
            places = ground.places;
            for (int p = 0; p < places; p++) {
                for (int q = 0; q < places; q++) {
                    rows[p][q] = p == q ? ground.degree[p] : -ground.between[p][q];
                }
                rows[p][places] = 0;
            }
        }

        void wantLoss(int p, int grains) {
            rows[p][places] = grains;
        }

        /**
         * Bareiss's way, in which every division leaves no rest. No place is shut, so each pivot is
         * above 0 and no rows need to change places.
         */
        void reduce() {
            long divisor = 1;
            for (int k = 0; k < places - 1 && divisor != 0; k++) {
                for (int p = k + 1; p < places; p++) {
                    for (int q = k + 1; q <= places; q++) {
                        rows[p][q] = (rows[p][q] * rows[k][k] - rows[p][k] * rows[k][q]) / divisor;
                    }
                }
                divisor = rows[k][k];
            }
        }

        /** Also the number of trees, by Kirchhoff's theorem. */
        long determinant() {
            return places > 0 ? rows[places - 1][places - 1] : 0;
        }

        boolean haveWholeAnswer() {
            for (int p = places - 1; p >= 0; p--) {
                long rest = rows[p][places];
                for (int q = p + 1; q < places; q++) {
                    rest -= rows[p][q] * answer[q];
                }
                long pivot = rows[p][p];
                if (pivot == 0 || rest % pivot != 0) {
                    return false;
                }
                answer[p] = rest / pivot;
            }
            return true;
        }
    }

    /** What was said of spills; whether it is so is asked of heaps as they are by then. */
    private static final class Readings {
        private final int[] place = new int[MOST_READINGS];
        private final int[] told = new int[MOST_READINGS];
        private final Heaps settled = new Heaps();
        private final Heaps spilt = new Heaps();
        int count;

        void note(int p, int topplings) {
            place[count] = p;
            told[count] = topplings;
            count++;
        }

        /**
         * Whichever goes first, each topples as often: so what topples without the grain is settled
         * once for all readings.
         */
        boolean areAllSo(Ground ground, Heaps heaps) {
            settled.startFrom(heaps);
            int before = settled.giveTillSettled(ground);
            for (int r = 0; r < count; r++) {
                spilt.startFrom(settled);
                spilt.height[place[r]]++;
                if (before + spilt.giveTillSettled(ground) != told[r]) {
                    return false;
                }
            }
            return true;
        }
    }
}
