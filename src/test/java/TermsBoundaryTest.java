import java.util.stream.IntStream;

/** The boundary cases that the document's head, its Terms and promise 1 name, a sentence to a method. */
public final class TermsBoundaryTest {
    private static final int BAD_ARG = SplayRow.BAD_ARG;
    private static final int FULL = SplayRow.FULL;
    private static final int NONE = SplayRow.NONE;
    private static final int TOP = 1000000;
    private static final int MOST = Integer.MAX_VALUE;
    private static final int LEAST = Integer.MIN_VALUE;

    private interface StretchCall {
        int on(SplayRow x, int i, int j);
    }

    public static void main(String[] args) {
        usedForAtMost512Calls();
        rowHas0To48Numbers();
        placesAre0ToNLess1();
        stretchIsThePlacesIToJLess1();
        clipHas0To48Numbers();
        rowAndClipNeverHaveMoreThan48();
        numberIsFromMinusAMillionToAMillion();
        noSumGoesBeyondAnInt();
        noSuchStretchAnswersBadArg();
        noSuchStretchAnswersWhatTheCallSaysInstead();
        stretchIsTestedFirst();
        fullMeansThatThereAre48Numbers();
        fullMeansThatThereWouldBeMore();
        newObjectIsEmpty();
        Check.finish();
    }

    /** "An object is used for at most 512 calls after it has been made": up to the 512th it keeps its promises. */
    private static void usedForAtMost512Calls() {
        SplayRow x = new SplayRow();
        Check.due("call 1: insertRun(0, 48, 1, 1)", x.insertRun(0, 48, 1, 1), 48);
        for (int call = 2; call <= 510; call++) {
            Check.due("call " + call + ": rotate(0, 48, 1)", x.rotate(0, 48, 1), 0);
        }
        Check.due("call 511: get(0)", x.get(0), 1 + 509 % 48);
        Check.due("call 512: sum(0, 48)", x.sum(0, 48), 48 * 49 / 2);
    }

    /** "The ROW has n numbers (ints), 0 <= n <= 48". */
    private static void rowHas0To48Numbers() {
        State none = State.of();
        none.stays("size()", x -> x.size(), 0);
        State most = State.ofSizes(48, 0);
        most.stays("size()", x -> x.size(), 48);
        most.stays("insert(48, 1)", x -> x.insert(48, 1), FULL);
        State.ofSizes(47, 0).becomes("insert(47, 147)", x -> x.insert(47, 147), 48, most);
        most.becomes("cut(0, 48)", x -> x.cut(0, 48), 48, new State(none.row(), most.row()));
    }

    /** ".. at the places 0 to n - 1". */
    private static void placesAre0ToNLess1() {
        for (int n : new int[] {1, 2, 48}) {
            State s = State.ofSizes(n, 0);
            s.stays("get(0)", x -> x.get(0), 100);
            s.stays("get(n - 1)", x -> x.get(n - 1), 100 + n - 1);
            s.stays("get(-1)", x -> x.get(-1), 0);
            s.stays("get(n)", x -> x.get(n), 0);
        }
    }

    /** "The STRETCH (i, j), 0 <= i <= j <= n, is the places i to j - 1." */
    private static void stretchIsThePlacesIToJLess1() {
        State s = State.of(1, 2, 3, 4).withClip(9);
        s.becomes("negate(1, 3)", x -> x.negate(1, 3), 2, State.of(1, -2, -3, 4).withClip(9));
        s.becomes("negate(0, 1)", x -> x.negate(0, 1), 1, State.of(-1, 2, 3, 4).withClip(9));
        s.becomes("negate(3, 4)", x -> x.negate(3, 4), 1, State.of(1, 2, 3, -4).withClip(9));
        s.becomes("negate(0, 4)", x -> x.negate(0, 4), 4, State.of(-1, -2, -3, -4).withClip(9));
        for (int p = 0; p <= 4; p++) {
            int i = p;
            s.stays("negate(" + i + ", " + i + ")", x -> x.negate(i, i), 0);
        }
    }

    /** "There is also a CLIP, a list of 0 to 48 numbers". */
    private static void clipHas0To48Numbers() {
        State.of(1, 2).stays("clip()", x -> x.clip(), 0);
        State most = State.ofSizes(0, 48);
        most.stays("clip()", x -> x.clip(), 48);
        most.becomes("paste(0)", x -> x.paste(0), 48, State.of(most.clip()));
    }

    /** "the row and the clip together never have more than 48 numbers", however the 48 are shared out. */
    private static void rowAndClipNeverHaveMoreThan48() {
        for (int n = 0; n <= 48; n++) {
            int last = n;
            State full = State.ofSizes(n, 48 - n);
            full.stays("insert(0, 1)", x -> x.insert(0, 1), FULL);
            full.stays("insert(n, 1)", x -> x.insert(last, 1), FULL);
            full.stays("insertRun(0, 1, 1, 1)", x -> x.insertRun(0, 1, 1, 1), FULL);
            full.stays("insertRun(n, 48, 1, 1)", x -> x.insertRun(last, 48, 1, 1), FULL);
        }
        for (int n = 0; n < 48; n++) {
            int last = n;
            State oneFree = State.ofSizes(n, 47 - n);
            State then = State.ofSizes(n + 1, 47 - n);
            oneFree.becomes("insert(n, ..)", x -> x.insert(last, 100 + last), n + 1, then);
            oneFree.becomes("insertRun(n, 1, ..)", x -> x.insertRun(last, 1, 100 + last, 5), n + 1, then);
            oneFree.stays("insertRun(n, 2, ..)", x -> x.insertRun(last, 2, 100 + last, 5), FULL);
        }
    }

    /** "A number is an int from -1000000 to 1000000". */
    private static void numberIsFromMinusAMillionToAMillion() {
        State s = State.of(0, 0).withClip(9);
        for (int v : new int[] {TOP, -TOP}) {
            State then = State.of(0, v).withClip(9);
            s.becomes("set(1, " + v + ")", x -> x.set(1, v), 0, then);
            s.becomes("raise(1, 2, " + v + ")", x -> x.raise(1, 2, v), 1, then);
            State.of(0).withClip(9).becomes("insert(1, " + v + ")", x -> x.insert(1, v), 2, then);
            State.of(0).withClip(9).becomes("insertRun(1, 1, " + v + ", 0)", x -> x.insertRun(1, 1, v, 0), 2, then);
            then.becomes("negate(1, 2)", x -> x.negate(1, 2), 1, State.of(0, -v).withClip(9));
        }
        for (int v : new int[] {TOP + 1, -TOP - 1, MOST, LEAST}) {
            s.stays("set(1, " + v + ")", x -> x.set(1, v), BAD_ARG);
            s.stays("raise(1, 2, " + v + ")", x -> x.raise(1, 2, v), BAD_ARG);
            s.stays("insert(1, " + v + ")", x -> x.insert(1, v), BAD_ARG);
            s.stays("insertRun(1, 1, " + v + ", 0)", x -> x.insertRun(1, 1, v, 0), BAD_ARG);
        }
    }

    /** "so no sum below goes beyond an int": the greatest ones there can be. */
    private static void noSumGoesBeyondAnInt() {
        for (int v : new int[] {TOP, -TOP}) {
            State s = State.of(IntStream.range(0, 48).map(p -> v).toArray());
            s.stays("sum(0, 48)", x -> x.sum(0, 48), 48 * v);
            s.stays("weighted(0, 48)", x -> x.weighted(0, 48), 1176 * v);
        }
    }

    /** "if there is no such stretch the answer is BAD_ARG". */
    private static void noSuchStretchAnswersBadArg() {
        noStretch("cut", (x, i, j) -> x.cut(i, j), BAD_ARG);
        noStretch("copy", (x, i, j) -> x.copy(i, j), BAD_ARG);
        noStretch("reverse", (x, i, j) -> x.reverse(i, j), BAD_ARG);
        noStretch("raise by 0", (x, i, j) -> x.raise(i, j, 0), BAD_ARG);
        noStretch("raise by 1", (x, i, j) -> x.raise(i, j, 1), BAD_ARG);
        noStretch("negate", (x, i, j) -> x.negate(i, j), BAD_ARG);
        noStretch("rotate by 0", (x, i, j) -> x.rotate(i, j, 0), BAD_ARG);
        noStretch("rotate by 1", (x, i, j) -> x.rotate(i, j, 1), BAD_ARG);
        noStretch("greatestAt", (x, i, j) -> x.greatestAt(i, j), BAD_ARG);
    }

    /** "(or what the call says instead)". */
    private static void noSuchStretchAnswersWhatTheCallSaysInstead() {
        noStretch("sum", (x, i, j) -> x.sum(i, j), 0);
        noStretch("greatest", (x, i, j) -> x.greatest(i, j), 0);
        noStretch("weighted", (x, i, j) -> x.weighted(i, j), 0);
    }

    /** "In all calls with a stretch, i and j are tested first": before FULL and before an empty stretch is. */
    private static void stretchIsTestedFirst() {
        State full = State.ofSizes(48, 0);
        full.stays("copy(0, 49)", x -> x.copy(0, 49), BAD_ARG);
        full.stays("copy(-1, 48)", x -> x.copy(-1, 48), BAD_ARG);
        full.stays("greatestAt(49, 49)", x -> x.greatestAt(49, 49), BAD_ARG);
        full.stays("greatestAt(-1, -1)", x -> x.greatestAt(-1, -1), BAD_ARG);
        full.stays("raise(0, 49, TOP + 1)", x -> x.raise(0, 49, TOP + 1), BAD_ARG);
        full.stays("rotate(0, 49, 50)", x -> x.rotate(0, 49, 50), BAD_ARG);
    }

    /** "FULL: The row and the clip have 48 numbers": then even a run of no numbers is refused, as the words say. */
    private static void fullMeansThatThereAre48Numbers() {
        for (int clipSize : new int[] {0, 1, 24, 47, 48}) {
            State full = State.ofSizes(48 - clipSize, clipSize);
            full.stays("insert(0, 1)", x -> x.insert(0, 1), FULL);
            full.stays("insertRun(0, 0, 1, 1)", x -> x.insertRun(0, 0, 1, 1), FULL);
        }
        State.ofSizes(30, 17).stays("insertRun(0, 0, 1, 1)", x -> x.insertRun(0, 0, 1, 1), 30);
    }

    /** "FULL: .. or would have more." */
    private static void fullMeansThatThereWouldBeMore() {
        State s = State.ofSizes(20, 10);
        s.stays("insertRun(0, 19, 1, 1)", x -> x.insertRun(0, 19, 1, 1), FULL);
        Check.due("insertRun(0, 18, 1, 1)", s.make().insertRun(0, 18, 1, 1), 38);
        State.ofSizes(0, 1).stays("insertRun(0, 48, 1, 1)", x -> x.insertRun(0, 48, 1, 1), FULL);
        State.ofSizes(1, 0).stays("insertRun(0, 48, 1, 1)", x -> x.insertRun(0, 48, 1, 1), FULL);
        Check.due("insertRun(0, 48, 1, 1) on nothing", State.of().make().insertRun(0, 48, 1, 1), 48);
    }

    /** "Row and clip are empty." */
    private static void newObjectIsEmpty() {
        State none = State.of();
        none.stays("nothing called, size()", x -> x.size(), 0);
        none.stays("clip()", x -> x.clip(), 0);
        none.stays("get(0)", x -> x.get(0), 0);
        none.stays("paste(0)", x -> x.paste(0), 0);
        none.stays("paste(1)", x -> x.paste(1), BAD_ARG);
        none.stays("firstFrom(0, LEAST)", x -> x.firstFrom(0, LEAST), NONE);
    }

    private static void noStretch(String name, StretchCall call, int want) {
        State[] starts = {State.of(), State.of(5), State.of(4, -5, 6).withClip(7, 8), State.ofSizes(48, 0)};
        for (State s : starts) {
            int n = s.row().length;
            int[] near = {LEAST, LEAST + 1, -2, -1, 0, 1, n - 1, n, n + 1, n + 2, 49, MOST - 1, MOST};
            for (int i : near) {
                for (int j : near) {
                    if (i < 0 || j < i || j > n) {
                        s.stays(name + " of (" + i + ", " + j + ")", x -> call.on(x, i, j), want);
                    }
                }
            }
        }
    }
}
