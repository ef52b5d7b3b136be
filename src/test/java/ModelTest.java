/** Long fixed runs of calls, good and wrong ones mixed: each answer and the state after it must be the model's. */
public final class ModelTest {
    private static final int RUNS = 2000;
    /** What an object answers after so many calls is free. */
    private static final int CALLS = 512;
    /** What a look at the whole state takes at most: size, clip and 48 times get, and one paste. */
    private static final int LOOK = 51;
    private static final int[] ODD_PLACES = {-1, 47, 48, 49, Integer.MIN_VALUE, Integer.MAX_VALUE};
    private static final int[] ODD_NUMBERS = {
        1000000, -1000000, 1000001, -1000001, 999999, -999999, Integer.MIN_VALUE, Integer.MAX_VALUE,
    };

    private long seed;
    private SplayRow x;
    private Model m;
    private int used;

    public static void main(String[] args) {
        ModelTest test = new ModelTest();
        for (int run = 0; run < RUNS; run++) {
            test.run(run);
        }
        Check.finish();
    }

    private void run(int number) {
        seed = number;
        x = new SplayRow();
        m = new Model();
        // Looking at the state after each call uses the calls up soon, so every other run looks at its end only.
        boolean lookAlways = number % 2 == 0;
        used = 0;
        while (used + 1 + 3 * LOOK <= CALLS) {
            String call = "run " + number + " call " + used + ": " + oneCall();
            used++;
            if (lookAlways) {
                sameState(call);
            }
        }
        sameState("run " + number + " at its end");
        Check.due("run " + number + " at its end: paste(0)", x.paste(0), m.paste(0));
        sameState("run " + number + " with the clip pasted");
    }

    private void sameState(String call) {
        boolean same = x.size() == m.row.size() && x.clip() == m.clip.size();
        for (int p = 0; p < m.row.size(); p++) {
            same &= x.get(p) == m.row.get(p);
        }
        used += 2 + m.row.size();
        Check.due(call + " leaves the due state", same, true);
    }

    /** The same numbers each time: a fixed step of a fixed sequence, not a source of chance. */
    private int next(int bound) {
        seed = seed * 6364136223846793005L + 1442695040888963407L;
        return (int) ((seed >>> 33) % bound);
    }

    private int place() {
        return next(24) == 0 ? ODD_PLACES[next(ODD_PLACES.length)] : next(m.row.size() + 1);
    }

    private int number() {
        int kind = next(12);
        if (kind == 0) {
            return ODD_NUMBERS[next(ODD_NUMBERS.length)];
        }
        return kind < 9 ? next(9) - 4 : next(2000001) - 1000000;
    }

    private int length() {
        return next(24) == 0 ? ODD_PLACES[next(ODD_PLACES.length)] : next(9);
    }

    private String oneCall() {
        int a = place();
        int b = place();
        int i = next(10) == 0 ? a : Math.min(a, b);
        int j = i == a ? b : a;
        int k = length();
        int v = number();
        int d = number();
        String all = " i=" + i + " j=" + j + " k=" + k + " v=" + v + " d=" + d;
        switch (next(20)) {
            case 0: return due("insert" + all, x.insert(i, v), m.insert(i, v));
            case 1: return due("insert" + all, x.insert(j, v), m.insert(j, v));
            case 2: return due("insertRun" + all, x.insertRun(i, k, v, d), m.insertRun(i, k, v, d));
            case 3: return due("insertRun" + all, x.insertRun(j, k, v, d), m.insertRun(j, k, v, d));
            case 4: return due("set" + all, x.set(i, v), m.set(i, v));
            case 5: return due("cut" + all, x.cut(i, j), m.cut(i, j));
            case 6: return due("copy" + all, x.copy(i, j), m.copy(i, j));
            case 7: return due("paste" + all, x.paste(i), m.paste(i));
            case 8: return due("paste" + all, x.paste(j), m.paste(j));
            case 9: return due("reverse" + all, x.reverse(i, j), m.reverse(i, j));
            case 10: return due("raise" + all, x.raise(i, j, d), m.raise(i, j, d));
            case 11: return due("negate" + all, x.negate(i, j), m.negate(i, j));
            case 12: return due("rotate" + all, x.rotate(i, j, k), m.rotate(i, j, k));
            case 13: return due("sum" + all, x.sum(i, j), m.sum(i, j));
            case 14: return due("greatest" + all, x.greatest(i, j), m.greatest(i, j));
            case 15: return due("greatestAt" + all, x.greatestAt(i, j), m.greatestAt(i, j));
            case 16: return due("firstFrom" + all, x.firstFrom(i, v), m.firstFrom(i, v));
            case 17: return due("weighted" + all, x.weighted(i, j), m.weighted(i, j));
            case 18: return due("get" + all, x.get(i), m.get(i));
            default: return dueAlike(i, j, k);
        }
    }

    private String dueAlike(int i, int j, int k) {
        String call = "alike i=" + i + " j=" + j + " k=" + k;
        return due(call, x.alike(i, j, k) ? 1 : 0, m.alike(i, j, k) ? 1 : 0);
    }

    private static String due(String call, int got, int want) {
        Check.due(call, got, want);
        return call;
    }
}
