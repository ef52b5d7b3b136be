/** Counts the answers that are not the ones that are due. */
final class Check {
    /** One fault can make very many answers wrong; the first ones tell enough. */
    private static final int SHOWN = 100;
    private static int wrong = 0;
    private static int looked = 0;

    private Check() {
    }

    static void due(String call, long got, long want) {
        looked++;
        if (got != want) {
            wrong++;
            if (wrong <= SHOWN) {
                System.out.println(call + " answered " + got + ", due is " + want);
            }
        }
    }

    static void due(String call, boolean got, boolean want) {
        due(call, got ? 1L : 0L, want ? 1L : 0L);
    }

    /** Compares the whole row, seen from outside only. */
    static void row(String after, SplayRow x, int... want) {
        due(after + ": size()", x.size(), want.length);
        for (int p = 0; p < want.length; p++) {
            due(after + ": get(" + p + ")", x.get(p), want[p]);
        }
    }

    static SplayRow rowOf(int... numbers) {
        SplayRow x = new SplayRow();
        for (int p = 0; p < numbers.length; p++) {
            due("insert(" + p + ", " + numbers[p] + ")", x.insert(p, numbers[p]), p + 1);
        }
        return x;
    }

    static void finish() {
        System.out.println(wrong == 0 ? looked + " answers as due" : wrong + " of " + looked + " answers not as due");
        if (wrong != 0) {
            System.exit(1);
        }
    }
}
