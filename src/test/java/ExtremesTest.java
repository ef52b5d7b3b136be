import java.util.Arrays;
import java.util.List;
import java.util.function.ToIntFunction;

/** "No call ever throws": every call with every mix of far and near arguments, each answer and state the model's. */
public final class ExtremesTest {
    private static final State[] STARTS = {
        State.of(), State.of(3), State.of(4, 4, 6).withClip(7, 8), State.of(1000000, -1000000, 0),
        State.ofSizes(48, 0), State.ofSizes(0, 48), State.ofSizes(24, 24), State.ofSizes(46, 1),
    };
    private static final int[] ARGUMENTS = {
        Integer.MIN_VALUE, -1000001, -1000000, -1, 0, 1, 2, 3, 24, 47, 48, 49, 1000000, 1000001, Integer.MAX_VALUE,
    };
    /** Four arguments give many mixes, so a run takes from fewer. */
    private static final int[] RUN_ARGUMENTS = {
        Integer.MIN_VALUE, -1000001, -1000000, -1, 0, 1, 24, 48, 49, 1000000, 1000001, Integer.MAX_VALUE,
    };

    public static void main(String[] args) {
        for (State start : STARTS) {
            none(start);
            for (int a : ARGUMENTS) {
                one(start, a);
                for (int b : ARGUMENTS) {
                    two(start, a, b);
                    for (int c : ARGUMENTS) {
                        three(start, a, b, c);
                    }
                }
            }
            runs(start);
        }
        Check.finish();
    }

    private static void none(State start) {
        same(start, "size()", x -> x.size(), m -> m.row.size());
        same(start, "clip()", x -> x.clip(), m -> m.clip.size());
    }

    private static void one(State start, int i) {
        String with = "(" + i + ")";
        same(start, "get" + with, x -> x.get(i), m -> m.get(i));
        same(start, "paste" + with, x -> x.paste(i), m -> m.paste(i));
    }

    private static void two(State start, int i, int j) {
        String with = "(" + i + ", " + j + ")";
        same(start, "insert" + with, x -> x.insert(i, j), m -> m.insert(i, j));
        same(start, "set" + with, x -> x.set(i, j), m -> m.set(i, j));
        same(start, "cut" + with, x -> x.cut(i, j), m -> m.cut(i, j));
        same(start, "copy" + with, x -> x.copy(i, j), m -> m.copy(i, j));
        same(start, "reverse" + with, x -> x.reverse(i, j), m -> m.reverse(i, j));
        same(start, "negate" + with, x -> x.negate(i, j), m -> m.negate(i, j));
        same(start, "sum" + with, x -> x.sum(i, j), m -> m.sum(i, j));
        same(start, "greatest" + with, x -> x.greatest(i, j), m -> m.greatest(i, j));
        same(start, "greatestAt" + with, x -> x.greatestAt(i, j), m -> m.greatestAt(i, j));
        same(start, "firstFrom" + with, x -> x.firstFrom(i, j), m -> m.firstFrom(i, j));
        same(start, "weighted" + with, x -> x.weighted(i, j), m -> m.weighted(i, j));
    }

    private static void three(State start, int i, int j, int k) {
        String with = "(" + i + ", " + j + ", " + k + ")";
        same(start, "raise" + with, x -> x.raise(i, j, k), m -> m.raise(i, j, k));
        same(start, "rotate" + with, x -> x.rotate(i, j, k), m -> m.rotate(i, j, k));
        same(start, "alike" + with, x -> x.alike(i, j, k) ? 1 : 0, m -> m.alike(i, j, k) ? 1 : 0);
    }

    private static void runs(State start) {
        for (int i : RUN_ARGUMENTS) {
            for (int k : RUN_ARGUMENTS) {
                for (int v : RUN_ARGUMENTS) {
                    for (int d : RUN_ARGUMENTS) {
                        String call = "insertRun(" + i + ", " + k + ", " + v + ", " + d + ")";
                        same(start, call, x -> x.insertRun(i, k, v, d), m -> m.insertRun(i, k, v, d));
                    }
                }
            }
        }
    }

    private static void same(State start, String call, ToIntFunction<SplayRow> x, ToIntFunction<Model> m) {
        Model model = new Model();
        Arrays.stream(start.row()).forEach(model.row::add);
        Arrays.stream(start.clip()).forEach(model.clip::add);
        int want = m.applyAsInt(model);
        State then = new State(numbers(model.row), numbers(model.clip));
        start.becomes(call, x, want, then);
    }

    private static int[] numbers(List<Integer> list) {
        return list.stream().mapToInt(v -> v).toArray();
    }
}
