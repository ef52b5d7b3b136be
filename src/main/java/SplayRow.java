/** A row of numbers that is edited in stretches: taken out, moved, turned round, raised, added up, searched. */
public final class SplayRow {
    public static final int BAD_ARG = -1;
    public static final int FULL = -2;
    public static final int NONE = -4;

    private static final int CAPACITY = 48;
    private static final int LIMIT = 1000000;

    private final int[] row = new int[CAPACITY];
    private final int[] clipped = new int[CAPACITY];
    private int rowCount;
    private int clipCount;

    public SplayRow() {
        rowCount = 0;
        clipCount = 0;
    }

    public int insert(int i, int v) {
        if (!isGap(i) || !isWithinLimit(v)) {
            return BAD_ARG;
        }
        if (isFullFor(1)) {
            return FULL;
        }
        openGap(i, 1);
        row[i] = v;
        return rowCount;
    }

    public int insertRun(int i, int k, int v, int d) {
        if (!isGap(i) || !isRun(k, v, d)) {
            return BAD_ARG;
        }
        if (isFullFor(k)) {
            return FULL;
        }
        openGap(i, k);
        for (int t = 0; t < k; t++) {
            row[i + t] = v + t * d;
        }
        return rowCount;
    }

    public int size() {
        return rowCount;
    }

    public int get(int i) {
        return isPlace(i) ? row[i] : 0;
    }

    public int set(int i, int v) {
        if (!isPlace(i) || !isWithinLimit(v)) {
            return BAD_ARG;
        }
        row[i] = v;
        return 0;
    }

    public int cut(int i, int j) {
        if (!isStretch(i, j)) {
            return BAD_ARG;
        }
        fillClip(i, j);
        closeGap(i, j);
        return clipCount;
    }

    public int copy(int i, int j) {
        if (!isStretch(i, j)) {
            return BAD_ARG;
        }
        // The old clip makes way for the new one, so it takes up no room here.
        if (rowCount + (j - i) > CAPACITY) {
            return FULL;
        }
        fillClip(i, j);
        return clipCount;
    }

    public int paste(int i) {
        if (!isGap(i)) {
            return BAD_ARG;
        }
        // Row and clip together never pass the capacity, so the clip always fits.
        openGap(i, clipCount);
        for (int t = 0; t < clipCount; t++) {
            row[i + t] = clipped[t];
        }
        clipCount = 0;
        return rowCount;
    }

    public int clip() {
        return clipCount;
    }

    public int reverse(int i, int j) {
        if (!isStretch(i, j)) {
            return BAD_ARG;
        }
        turnRound(i, j);
        return j - i;
    }

    public int raise(int i, int j, int d) {
        if (!isStretch(i, j) || !isWithinLimit(d) || !canRaise(i, j, d)) {
            return BAD_ARG;
        }
        for (int p = i; p < j; p++) {
            row[p] += d;
        }
        return j - i;
    }

    public int negate(int i, int j) {
        if (!isStretch(i, j)) {
            return BAD_ARG;
        }
        for (int p = i; p < j; p++) {
            row[p] = -row[p];
        }
        return j - i;
    }

    public int rotate(int i, int j, int k) {
        if (!isStretch(i, j) || k < 0 || k > j - i) {
            return BAD_ARG;
        }
        // Turning both parts round and then the whole swaps the parts and leaves each in its own order.
        turnRound(i, i + k);
        turnRound(i + k, j);
        turnRound(i, j);
        return 0;
    }

    public int sum(int i, int j) {
        if (!isStretch(i, j)) {
            return 0;
        }
        int total = 0;
        for (int p = i; p < j; p++) {
            total += row[p];
        }
        return total;
    }

    public int greatest(int i, int j) {
        if (!isStretch(i, j) || i == j) {
            return 0;
        }
        int place = placeOfGreatest(i, j);
        return row[place];
    }

    public int greatestAt(int i, int j) {
        if (!isStretch(i, j)) {
            return BAD_ARG;
        }
        return i == j ? NONE : placeOfGreatest(i, j);
    }

    public int firstFrom(int i, int v) {
        if (!isGap(i)) {
            return NONE;
        }
        for (int p = i; p < rowCount; p++) {
            if (row[p] >= v) {
                return p;
            }
        }
        return NONE;
    }

    public int weighted(int i, int j) {
        if (!isStretch(i, j)) {
            return 0;
        }
        int total = 0;
        for (int p = i; p < j; p++) {
            total += (p - i + 1) * row[p];
        }
        return total;
    }

    public boolean alike(int i, int j, int k) {
        if (!isStretchOf(i, k) || !isStretchOf(j, k)) {
            return false;
        }
        for (int t = 0; t < k; t++) {
            if (row[i + t] != row[j + t]) {
                return false;
            }
        }
        return true;
    }

    private boolean isPlace(int i) {
        return 0 <= i && i < rowCount;
    }

    /** Whether something can be put in at i: before a number of the row or behind them all. */
    private boolean isGap(int i) {
        return 0 <= i && i <= rowCount;
    }

    private boolean isStretch(int i, int j) {
        return 0 <= i && i <= j && j <= rowCount;
    }

    /** Takes the length in place of the end, since i + k could go beyond an int. */
    private boolean isStretchOf(int i, int k) {
        return 0 <= k && 0 <= i && i <= rowCount - k;
    }

    private static boolean isWithinLimit(int v) {
        return -LIMIT <= v && v <= LIMIT;
    }

    /** Looks at the two ends of the run only: the numbers between them lie between them in size too. */
    private static boolean isRun(int k, int v, int d) {
        if (k < 0 || k > CAPACITY || !isWithinLimit(v) || !isWithinLimit(d)) {
            return false;
        }
        return k == 0 || isWithinLimit(v + (k - 1) * d);
    }

    /** The document calls 48 numbers full whatever is to be added, so a run of none is refused then too. */
    private boolean isFullFor(int k) {
        int held = rowCount + clipCount;
        return held == CAPACITY || held + k > CAPACITY;
    }

    private boolean canRaise(int i, int j, int d) {
        for (int p = i; p < j; p++) {
            if (!isWithinLimit(row[p] + d)) {
                return false;
            }
        }
        return true;
    }

    private void openGap(int i, int k) {
        // From the back, so that no number is written over before it has moved.
        for (int p = rowCount - 1; p >= i; p--) {
            row[p + k] = row[p];
        }
        rowCount += k;
    }

    private void closeGap(int i, int j) {
        for (int p = j; p < rowCount; p++) {
            row[i + p - j] = row[p];
        }
        rowCount -= j - i;
    }

    private void fillClip(int i, int j) {
        for (int p = i; p < j; p++) {
            clipped[p - i] = row[p];
        }
        clipCount = j - i;
    }

    private void turnRound(int i, int j) {
        int half = (j - i) / 2;
        for (int t = 0; t < half; t++) {
            int kept = row[i + t];
            row[i + t] = row[j - 1 - t];
            row[j - 1 - t] = kept;
        }
    }

    /** Only for a stretch that is not empty. */
    private int placeOfGreatest(int i, int j) {
        int best = i;
        for (int p = i + 1; p < j; p++) {
            if (row[p] > row[best]) {
                best = p;
            }
        }
        return best;
    }
}
