import java.util.ArrayList;
import java.util.Collections;
import java.util.List;

/** The document's row over lists, written apart from SplayRow, to say which answer is due. */
final class Model {
    private static final int BAD_ARG = -1;
    private static final int FULL = -2;
    private static final int NONE = -4;
    private static final int MOST = 48;

    final List<Integer> row = new ArrayList<>();
    final List<Integer> clip = new ArrayList<>();

    private static boolean number(long v) {
        return v >= -1000000L && v <= 1000000L;
    }

    private boolean noStretch(int i, int j) {
        return i < 0 || j < i || j > row.size();
    }

    private boolean noGap(int i) {
        return i < 0 || i > row.size();
    }

    private boolean noRoom(int k) {
        return row.size() + clip.size() == MOST || row.size() + clip.size() + k > MOST;
    }

    int insert(int i, int v) {
        if (noGap(i) || !number(v)) return BAD_ARG;
        if (noRoom(1)) return FULL;
        row.add(i, v);
        return row.size();
    }

    int insertRun(int i, int k, int v, int d) {
        if (noGap(i) || k < 0 || k > MOST || !number(v) || !number(d)) return BAD_ARG;
        if (k > 0 && !number(v + (k - 1L) * d)) return BAD_ARG;
        if (noRoom(k)) return FULL;
        List<Integer> run = new ArrayList<>();
        for (int t = 0; t < k; t++) run.add(v + t * d);
        row.addAll(i, run);
        return row.size();
    }

    int get(int i) {
        return i < 0 || i >= row.size() ? 0 : row.get(i);
    }

    int set(int i, int v) {
        if (i < 0 || i >= row.size() || !number(v)) return BAD_ARG;
        row.set(i, v);
        return 0;
    }

    int cut(int i, int j) {
        if (noStretch(i, j)) return BAD_ARG;
        clip.clear();
        clip.addAll(row.subList(i, j));
        row.subList(i, j).clear();
        return clip.size();
    }

    int copy(int i, int j) {
        if (noStretch(i, j)) return BAD_ARG;
        if (row.size() + j - i > MOST) return FULL;
        clip.clear();
        clip.addAll(row.subList(i, j));
        return clip.size();
    }

    int paste(int i) {
        if (noGap(i)) return BAD_ARG;
        row.addAll(i, clip);
        clip.clear();
        return row.size();
    }

    int reverse(int i, int j) {
        if (noStretch(i, j)) return BAD_ARG;
        Collections.reverse(row.subList(i, j));
        return j - i;
    }

    int raise(int i, int j, int d) {
        if (noStretch(i, j) || !number(d)) return BAD_ARG;
        if (row.subList(i, j).stream().anyMatch(v -> !number((long) v + d))) return BAD_ARG;
        row.subList(i, j).replaceAll(v -> v + d);
        return j - i;
    }

    int negate(int i, int j) {
        if (noStretch(i, j)) return BAD_ARG;
        row.subList(i, j).replaceAll(v -> -v);
        return j - i;
    }

    int rotate(int i, int j, int k) {
        if (noStretch(i, j) || k < 0 || k > j - i) return BAD_ARG;
        Collections.rotate(row.subList(i, j), -k);
        return 0;
    }

    int sum(int i, int j) {
        return noStretch(i, j) ? 0 : row.subList(i, j).stream().mapToInt(v -> v).sum();
    }

    int greatest(int i, int j) {
        return noStretch(i, j) || i == j ? 0 : Collections.max(row.subList(i, j));
    }

    int greatestAt(int i, int j) {
        if (noStretch(i, j)) return BAD_ARG;
        if (i == j) return NONE;
        return i + row.subList(i, j).indexOf(Collections.max(row.subList(i, j)));
    }

    int firstFrom(int i, int v) {
        if (noGap(i)) return NONE;
        for (int p = i; p < row.size(); p++) if (row.get(p) >= v) return p;
        return NONE;
    }

    int weighted(int i, int j) {
        if (noStretch(i, j)) return 0;
        long total = 0;
        for (int p = i; p < j; p++) total += (p - i + 1L) * row.get(p);
        return Math.toIntExact(total);
    }

    boolean alike(int i, int j, int k) {
        if (k < 0 || i < 0 || j < 0 || (long) i + k > row.size() || (long) j + k > row.size()) return false;
        return row.subList(i, i + k).equals(row.subList(j, j + k));
    }
}
