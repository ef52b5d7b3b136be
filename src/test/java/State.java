import java.util.Arrays;
import java.util.function.ToIntFunction;
import java.util.stream.IntStream;

/** A row and a clip to start from or to end at. Every look is at a new object, so no test leans on another. */
record State(int[] row, int[] clip) {
    static State of(int... row) {
        return new State(row, new int[0]);
    }

    State withClip(int... newClip) {
        return new State(row, newClip);
    }

    /** Has numbers that are all different, so that a number in a wrong place is seen. */
    static State ofSizes(int rowSize, int clipSize) {
        int[] row = IntStream.range(0, rowSize).map(p -> 100 + p).toArray();
        int[] clip = IntStream.range(0, clipSize).map(p -> -100 - p).toArray();
        return new State(row, clip);
    }

    SplayRow make() {
        SplayRow x = new SplayRow();
        putIn(x, clip);
        if (clip.length > 0) {
            Check.due("to start " + this + ": cut", x.cut(0, clip.length), clip.length);
        }
        putIn(x, row);
        return x;
    }

    private void putIn(SplayRow x, int[] numbers) {
        for (int p = 0; p < numbers.length; p++) {
            Check.due("to start " + this + ": insert", x.insert(p, numbers[p]), p + 1);
        }
    }

    /** The call answers so and leaves row and clip as they were: a refused call, or one that only asks. */
    void stays(String call, ToIntFunction<SplayRow> asked, int want) {
        becomes(call, asked, want, this);
    }

    void becomes(String call, ToIntFunction<SplayRow> asked, int want, State then) {
        String title = call + " on " + this;
        try {
            SplayRow x = make();
            Check.due(title, asked.applyAsInt(x), want);
            then.isIn(x, title);
        } catch (RuntimeException thrown) {
            Check.due(title + " threw " + thrown + ", calls that threw", 1, 0);
        }
    }

    /** Pastes at the end, since only a paste shows what stands in the clip. */
    void isIn(SplayRow x, String after) {
        Check.row(after, x, row);
        Check.due(after + ": clip()", x.clip(), clip.length);
        Check.due(after + ": paste at the end", x.paste(row.length), row.length + clip.length);
        int[] both = IntStream.concat(Arrays.stream(row), Arrays.stream(clip)).toArray();
        Check.row(after + ", the clip pasted", x, both);
    }

    @Override
    public String toString() {
        return "row " + Arrays.toString(row) + " clip " + Arrays.toString(clip);
    }
}
