import java.util.Arrays;

/** The boundary cases of the calls that change the row or the clip, a sentence of the document to a method. */
public final class EditBoundaryTest {
    private static final int BAD_ARG = SplayRow.BAD_ARG;
    private static final int FULL = SplayRow.FULL;
    private static final int TOP = 1000000;
    private static final int MOST = Integer.MAX_VALUE;
    private static final int LEAST = Integer.MIN_VALUE;
    private static final int[] NO_NUMBERS = {TOP + 1, -TOP - 1, MOST, LEAST};
    private static final State SOME = State.of(4, -5, 6).withClip(7, 8);
    private static final int[] NO_GAPS_OF_SOME = {-1, 4, 5, 48, MOST, LEAST};

    public static void main(String[] args) {
        insertStandsAtPlaceI();
        insertINot0ToN();
        insertVNoNumber();
        insertFull();
        insertBadArgBeforeFull();
        insertRunFirstStandsAtPlaceI();
        insertRunINot0ToN();
        insertRunKNot0To48();
        insertRunVNoNumber();
        insertRunDOutOfRange();
        insertRunLastIsNoNumber();
        insertRunOfNoneHasNoLast();
        insertRunFull();
        insertRunBadArgBeforeFull();
        setNoPlace();
        setNoNumber();
        setFirstAndLast();
        cutBecomesTheClip();
        cutOfNoneLosesTheClip();
        cutOfAll();
        copyBecomesTheClip();
        copyOfNoneLosesTheClip();
        copyFull();
        copyCountsOnlyTheNewClip();
        pasteStandsAtPlaceI();
        pasteOfAnEmptyClip();
        pasteINot0ToN();
        pasteAlwaysFits();
        reverseShortAndLong();
        raiseDOutOfRange();
        raiseToTheLimit();
        raiseSomeSumNoNumber();
        raiseOfNone();
        negateShortAndLong();
        rotateNoneAndAll();
        rotateKNot0ToJLessI();
        rotateOfNone();
        Check.finish();
    }

    /** "Puts v into the row so that it stands at place i, what stood there and behind it one place further." */
    private static void insertStandsAtPlaceI() {
        SOME.becomes("insert(0, 1)", x -> x.insert(0, 1), 4, State.of(1, 4, -5, 6).withClip(7, 8));
        SOME.becomes("insert(2, 1)", x -> x.insert(2, 1), 4, State.of(4, -5, 1, 6).withClip(7, 8));
        SOME.becomes("insert(3, 1)", x -> x.insert(3, 1), 4, State.of(4, -5, 6, 1).withClip(7, 8));
        State.of().becomes("insert(0, 1)", x -> x.insert(0, 1), 1, State.of(1));
    }

    /** "i not 0 to n .. answers BAD_ARG". */
    private static void insertINot0ToN() {
        for (int i : NO_GAPS_OF_SOME) {
            SOME.stays("insert(" + i + ", 1)", x -> x.insert(i, 1), BAD_ARG);
        }
        State.of().stays("insert(1, 1)", x -> x.insert(1, 1), BAD_ARG);
        State.of().stays("insert(-1, 1)", x -> x.insert(-1, 1), BAD_ARG);
    }

    /** "v no number answers BAD_ARG". */
    private static void insertVNoNumber() {
        for (int v : NO_NUMBERS) {
            SOME.stays("insert(0, " + v + ")", x -> x.insert(0, v), BAD_ARG);
        }
        SOME.becomes("insert(0, TOP)", x -> x.insert(0, TOP), 4, State.of(TOP, 4, -5, 6).withClip(7, 8));
        SOME.becomes("insert(0, -TOP)", x -> x.insert(0, -TOP), 4, State.of(-TOP, 4, -5, 6).withClip(7, 8));
    }

    /** "FULL", of promise 2. */
    private static void insertFull() {
        State.ofSizes(48, 0).stays("insert(24, 1)", x -> x.insert(24, 1), FULL);
        State.ofSizes(20, 28).stays("insert(20, 1)", x -> x.insert(20, 1), FULL);
        State.ofSizes(0, 48).stays("insert(0, 1)", x -> x.insert(0, 1), FULL);
        State.ofSizes(19, 28).becomes("insert(19, 119)", x -> x.insert(19, 119), 20, State.ofSizes(20, 28));
    }

    /** "Tested in this order", of promise 2. */
    private static void insertBadArgBeforeFull() {
        State full = State.ofSizes(40, 8);
        full.stays("insert(-1, 1)", x -> x.insert(-1, 1), BAD_ARG);
        full.stays("insert(41, 1)", x -> x.insert(41, 1), BAD_ARG);
        full.stays("insert(0, TOP + 1)", x -> x.insert(0, TOP + 1), BAD_ARG);
        full.stays("insert(0, -TOP - 1)", x -> x.insert(0, -TOP - 1), BAD_ARG);
    }

    /** "Puts k numbers v, v + d, v + 2 d, .. into the row, the first to stand at place i." */
    private static void insertRunFirstStandsAtPlaceI() {
        State front = State.of(1, 3, 5, 4, -5, 6).withClip(7, 8);
        SOME.becomes("insertRun(0, 3, 1, 2)", x -> x.insertRun(0, 3, 1, 2), 6, front);
        State between = State.of(4, 1, 0, -5, 6).withClip(7, 8);
        SOME.becomes("insertRun(1, 2, 1, -1)", x -> x.insertRun(1, 2, 1, -1), 5, between);
        State end = State.of(4, -5, 6, 1, 1).withClip(7, 8);
        SOME.becomes("insertRun(3, 2, 1, 0)", x -> x.insertRun(3, 2, 1, 0), 5, end);
        State.of().becomes("insertRun(0, 48, 100, 1)", x -> x.insertRun(0, 48, 100, 1), 48, State.ofSizes(48, 0));
    }

    /** "i not 0 to n .. answers BAD_ARG", for a run of none too. */
    private static void insertRunINot0ToN() {
        for (int i : NO_GAPS_OF_SOME) {
            SOME.stays("insertRun(" + i + ", 1, 1, 1)", x -> x.insertRun(i, 1, 1, 1), BAD_ARG);
            SOME.stays("insertRun(" + i + ", 0, 1, 1)", x -> x.insertRun(i, 0, 1, 1), BAD_ARG);
        }
    }

    /** "k not 0 to 48 .. answers BAD_ARG". */
    private static void insertRunKNot0To48() {
        for (int k : new int[] {-1, 49, 50, MOST, LEAST}) {
            SOME.stays("insertRun(0, " + k + ", 1, 0)", x -> x.insertRun(0, k, 1, 0), BAD_ARG);
            State.of().stays("insertRun(0, " + k + ", 1, 0)", x -> x.insertRun(0, k, 1, 0), BAD_ARG);
        }
        SOME.stays("insertRun(0, 0, 1, 0)", x -> x.insertRun(0, 0, 1, 0), 3);
        Check.due("insertRun(0, 48, 1, 0)", State.of().make().insertRun(0, 48, 1, 0), 48);
    }

    /** "v no number .. answers BAD_ARG", for a run of none too, and though v + (k - 1) d is one. */
    private static void insertRunVNoNumber() {
        for (int v : NO_NUMBERS) {
            SOME.stays("insertRun(0, 1, " + v + ", 0)", x -> x.insertRun(0, 1, v, 0), BAD_ARG);
            SOME.stays("insertRun(0, 0, " + v + ", 0)", x -> x.insertRun(0, 0, v, 0), BAD_ARG);
        }
        SOME.stays("insertRun(0, 2, TOP + 1, -1)", x -> x.insertRun(0, 2, TOP + 1, -1), BAD_ARG);
        SOME.stays("insertRun(0, 2, -TOP - 1, 1)", x -> x.insertRun(0, 2, -TOP - 1, 1), BAD_ARG);
    }

    /** "d not -1000000 to 1000000 .. answers BAD_ARG", for runs that need no d too. */
    private static void insertRunDOutOfRange() {
        for (int d : NO_NUMBERS) {
            for (int k = 0; k <= 2; k++) {
                int count = k;
                SOME.stays("insertRun(0, " + k + ", 0, " + d + ")", x -> x.insertRun(0, count, 0, d), BAD_ARG);
            }
        }
        SOME.stays("insertRun(0, 2, TOP, -TOP - 1)", x -> x.insertRun(0, 2, TOP, -TOP - 1), BAD_ARG);
        SOME.stays("insertRun(0, 2, -TOP, TOP + 1)", x -> x.insertRun(0, 2, -TOP, TOP + 1), BAD_ARG);
        // Here (k - 1) d wraps around to 0.
        SOME.stays("insertRun(0, 3, 0, LEAST)", x -> x.insertRun(0, 3, 0, LEAST), BAD_ARG);
        SOME.stays("insertRun(0, 17, 0, 1 << 28)", x -> x.insertRun(0, 17, 0, 1 << 28), BAD_ARG);
        State up = State.of(0, TOP, 4, -5, 6).withClip(7, 8);
        SOME.becomes("insertRun(0, 2, 0, TOP)", x -> x.insertRun(0, 2, 0, TOP), 5, up);
        State down = State.of(0, -TOP, 4, -5, 6).withClip(7, 8);
        SOME.becomes("insertRun(0, 2, 0, -TOP)", x -> x.insertRun(0, 2, 0, -TOP), 5, down);
    }

    /** "or (for k > 0) v + (k - 1) d no number answers BAD_ARG". */
    private static void insertRunLastIsNoNumber() {
        State reached = State.of(TOP - 2, TOP - 1, TOP, 4, -5, 6).withClip(7, 8);
        SOME.becomes("insertRun(0, 3, TOP - 2, 1)", x -> x.insertRun(0, 3, TOP - 2, 1), 6, reached);
        SOME.stays("insertRun(0, 4, TOP - 2, 1)", x -> x.insertRun(0, 4, TOP - 2, 1), BAD_ARG);
        State reachedBelow = State.of(2 - TOP, 1 - TOP, -TOP, 4, -5, 6).withClip(7, 8);
        SOME.becomes("insertRun(0, 3, 2 - TOP, -1)", x -> x.insertRun(0, 3, 2 - TOP, -1), 6, reachedBelow);
        SOME.stays("insertRun(0, 4, 2 - TOP, -1)", x -> x.insertRun(0, 4, 2 - TOP, -1), BAD_ARG);
        State one = State.of(TOP, 4, -5, 6).withClip(7, 8);
        SOME.becomes("insertRun(0, 1, TOP, TOP), its last is v", x -> x.insertRun(0, 1, TOP, TOP), 4, one);
        State.of().stays("insertRun(0, 48, 0, TOP)", x -> x.insertRun(0, 48, 0, TOP), BAD_ARG);
        State.of().stays("insertRun(0, 48, 0, -TOP)", x -> x.insertRun(0, 48, 0, -TOP), BAD_ARG);
    }

    /** "(for k > 0)": a run of none is not refused for a last number that it does not have. */
    private static void insertRunOfNoneHasNoLast() {
        SOME.stays("insertRun(3, 0, TOP, TOP)", x -> x.insertRun(3, 0, TOP, TOP), 3);
        SOME.stays("insertRun(3, 0, TOP, -TOP)", x -> x.insertRun(3, 0, TOP, -TOP), 3);
        SOME.stays("insertRun(0, 0, -TOP, TOP)", x -> x.insertRun(0, 0, -TOP, TOP), 3);
        SOME.stays("insertRun(0, 0, -TOP, -TOP)", x -> x.insertRun(0, 0, -TOP, -TOP), 3);
        State.of().stays("insertRun(0, 0, 0, 0)", x -> x.insertRun(0, 0, 0, 0), 0);
    }

    /** "FULL", of promise 3. */
    private static void insertRunFull() {
        State s = State.ofSizes(20, 10);
        for (int k : new int[] {19, 20, 48}) {
            s.stays("insertRun(20, " + k + ", 120, 1)", x -> x.insertRun(20, k, 120, 1), FULL);
        }
        s.becomes("insertRun(20, 18, 120, 1)", x -> x.insertRun(20, 18, 120, 1), 38, State.ofSizes(38, 10));
    }

    /** "Tested in this order", of promise 3. */
    private static void insertRunBadArgBeforeFull() {
        State full = State.ofSizes(40, 8);
        full.stays("insertRun(-1, 1, 0, 0)", x -> x.insertRun(-1, 1, 0, 0), BAD_ARG);
        full.stays("insertRun(41, 1, 0, 0)", x -> x.insertRun(41, 1, 0, 0), BAD_ARG);
        full.stays("insertRun(0, -1, 0, 0)", x -> x.insertRun(0, -1, 0, 0), BAD_ARG);
        full.stays("insertRun(0, 49, 0, 0)", x -> x.insertRun(0, 49, 0, 0), BAD_ARG);
        full.stays("insertRun(0, 1, TOP + 1, 0)", x -> x.insertRun(0, 1, TOP + 1, 0), BAD_ARG);
        full.stays("insertRun(0, 1, 0, TOP + 1)", x -> x.insertRun(0, 1, 0, TOP + 1), BAD_ARG);
        full.stays("insertRun(0, 2, TOP, 1)", x -> x.insertRun(0, 2, TOP, 1), BAD_ARG);
    }

    /** "BAD_ARG if there is no place i". */
    private static void setNoPlace() {
        for (int i : new int[] {-1, 3, 4, 48, MOST, LEAST}) {
            SOME.stays("set(" + i + ", 1)", x -> x.set(i, 1), BAD_ARG);
        }
        State.of().stays("set(0, 1)", x -> x.set(0, 1), BAD_ARG);
        State.ofSizes(48, 0).stays("set(48, 1)", x -> x.set(48, 1), BAD_ARG);
        State.ofSizes(0, 48).stays("set(0, 1)", x -> x.set(0, 1), BAD_ARG);
    }

    /** "or v is no number". */
    private static void setNoNumber() {
        for (int v : NO_NUMBERS) {
            SOME.stays("set(1, " + v + ")", x -> x.set(1, v), BAD_ARG);
        }
        SOME.becomes("set(1, TOP)", x -> x.set(1, TOP), 0, State.of(4, TOP, 6).withClip(7, 8));
        SOME.becomes("set(1, -TOP)", x -> x.set(1, -TOP), 0, State.of(4, -TOP, 6).withClip(7, 8));
    }

    /** "The number at place i becomes v .. otherwise 0", at both ends, and where nothing more could be put in. */
    private static void setFirstAndLast() {
        SOME.becomes("set(0, 1)", x -> x.set(0, 1), 0, State.of(1, -5, 6).withClip(7, 8));
        SOME.becomes("set(2, 1)", x -> x.set(2, 1), 0, State.of(4, -5, 1).withClip(7, 8));
        SplayRow full = State.ofSizes(48, 0).make();
        Check.due("set(47, 1) on a full row", full.set(47, 1), 0);
        Check.due("get(47)", full.get(47), 1);
    }

    /** "Takes the stretch out of the row; it becomes the clip, and what the clip was is gone." */
    private static void cutBecomesTheClip() {
        SOME.becomes("cut(0, 1)", x -> x.cut(0, 1), 1, State.of(-5, 6).withClip(4));
        SOME.becomes("cut(1, 2)", x -> x.cut(1, 2), 1, State.of(4, 6).withClip(-5));
        SOME.becomes("cut(2, 3)", x -> x.cut(2, 3), 1, State.of(4, -5).withClip(6));
        SOME.becomes("cut(1, 3)", x -> x.cut(1, 3), 2, State.of(4).withClip(-5, 6));
    }

    /** "what the clip was is gone", where nothing is taken out. */
    private static void cutOfNoneLosesTheClip() {
        for (int p = 0; p <= 3; p++) {
            int i = p;
            SOME.becomes("cut(" + i + ", " + i + ")", x -> x.cut(i, i), 0, State.of(4, -5, 6));
        }
        State.ofSizes(0, 48).becomes("cut(0, 0)", x -> x.cut(0, 0), 0, State.of());
        State.of().stays("cut(0, 0)", x -> x.cut(0, 0), 0);
    }

    /** "Answers the number of numbers taken out", where that is the whole row; a cut always fits. */
    private static void cutOfAll() {
        SOME.becomes("cut(0, 3)", x -> x.cut(0, 3), 3, State.of().withClip(4, -5, 6));
        State full = State.ofSizes(48, 0);
        full.becomes("cut(0, 48)", x -> x.cut(0, 48), 48, State.of().withClip(full.row()));
        State shared = State.ofSizes(30, 18);
        shared.becomes("cut(0, 30)", x -> x.cut(0, 30), 30, State.of().withClip(shared.row()));
    }

    /** "The stretch becomes the clip (the row keeps it), and what the clip was is gone." */
    private static void copyBecomesTheClip() {
        SOME.becomes("copy(0, 1)", x -> x.copy(0, 1), 1, State.of(4, -5, 6).withClip(4));
        SOME.becomes("copy(1, 3)", x -> x.copy(1, 3), 2, State.of(4, -5, 6).withClip(-5, 6));
        SOME.becomes("copy(0, 3)", x -> x.copy(0, 3), 3, State.of(4, -5, 6).withClip(4, -5, 6));
    }

    /** "what the clip was is gone", where the stretch is empty. */
    private static void copyOfNoneLosesTheClip() {
        for (int p = 0; p <= 3; p++) {
            int i = p;
            SOME.becomes("copy(" + i + ", " + i + ")", x -> x.copy(i, i), 0, State.of(4, -5, 6));
        }
        State.ofSizes(0, 48).becomes("copy(0, 0)", x -> x.copy(0, 0), 0, State.of());
        State.ofSizes(48, 0).stays("copy(48, 48)", x -> x.copy(48, 48), 0);
    }

    /** "FULL if the row and the new clip would together have more than 48 numbers." */
    private static void copyFull() {
        for (int n = 24; n <= 48; n++) {
            State s = State.ofSizes(n, 48 - n);
            int fits = 48 - n;
            int[] front = Arrays.copyOf(s.row(), fits);
            s.becomes("copy(0, " + fits + ")", x -> x.copy(0, fits), fits, s.withClip(front));
            if (fits < n) {
                s.stays("copy(0, " + (fits + 1) + ")", x -> x.copy(0, fits + 1), FULL);
                int last = n;
                s.stays("copy of the last " + (fits + 1), x -> x.copy(last - fits - 1, last), FULL);
            }
        }
    }

    /** ".. the new clip ..": the old one takes up no room. */
    private static void copyCountsOnlyTheNewClip() {
        State s = State.ofSizes(10, 38);
        s.becomes("copy(0, 10)", x -> x.copy(0, 10), 10, s.withClip(s.row()));
        State half = State.ofSizes(24, 24);
        half.becomes("copy(0, 24)", x -> x.copy(0, 24), 24, half.withClip(half.row()));
    }

    /** "Puts the clip into the row, its first number to stand at place i; the clip is empty afterwards." */
    private static void pasteStandsAtPlaceI() {
        SOME.becomes("paste(0)", x -> x.paste(0), 5, State.of(7, 8, 4, -5, 6));
        SOME.becomes("paste(1)", x -> x.paste(1), 5, State.of(4, 7, 8, -5, 6));
        SOME.becomes("paste(3)", x -> x.paste(3), 5, State.of(4, -5, 6, 7, 8));
    }

    /** "Otherwise the new n", where there is nothing in the clip. */
    private static void pasteOfAnEmptyClip() {
        State s = State.of(4, -5, 6);
        for (int p = 0; p <= 3; p++) {
            int i = p;
            s.stays("paste(" + i + ")", x -> x.paste(i), 3);
        }
        State.of().stays("paste(0)", x -> x.paste(0), 0);
        State.ofSizes(48, 0).stays("paste(48)", x -> x.paste(48), 48);
    }

    /** "BAD_ARG if i is not 0 to n", with an empty clip too. */
    private static void pasteINot0ToN() {
        for (int i : NO_GAPS_OF_SOME) {
            SOME.stays("paste(" + i + ")", x -> x.paste(i), BAD_ARG);
            State.of(4, -5, 6).stays("paste(" + i + ")", x -> x.paste(i), BAD_ARG);
        }
        State.ofSizes(0, 48).stays("paste(1)", x -> x.paste(1), BAD_ARG);
        State.ofSizes(48, 0).stays("paste(49)", x -> x.paste(49), BAD_ARG);
    }

    /** "Otherwise the new n": with 48 numbers in row and clip too. */
    private static void pasteAlwaysFits() {
        State clipOnly = State.ofSizes(0, 48);
        clipOnly.becomes("paste(0)", x -> x.paste(0), 48, State.of(clipOnly.clip()));
        SplayRow x = State.ofSizes(47, 1).make();
        Check.due("47 and 1: paste(47)", x.paste(47), 48);
        Check.due("get(47)", x.get(47), -100);
    }

    /** "Turns the order of the numbers of the stretch round. Answers j - i.", from the shortest to the longest. */
    private static void reverseShortAndLong() {
        State s = State.of(1, 2, 3, 4, 5).withClip(9);
        s.stays("reverse(0, 0)", x -> x.reverse(0, 0), 0);
        s.stays("reverse(5, 5)", x -> x.reverse(5, 5), 0);
        s.stays("reverse(2, 3)", x -> x.reverse(2, 3), 1);
        s.becomes("reverse(0, 2)", x -> x.reverse(0, 2), 2, State.of(2, 1, 3, 4, 5).withClip(9));
        s.becomes("reverse(2, 5)", x -> x.reverse(2, 5), 3, State.of(1, 2, 5, 4, 3).withClip(9));
        s.becomes("reverse(0, 5)", x -> x.reverse(0, 5), 5, State.of(5, 4, 3, 2, 1).withClip(9));
        State.of().stays("reverse(0, 0)", x -> x.reverse(0, 0), 0);
        SplayRow full = State.ofSizes(48, 0).make();
        Check.due("reverse(0, 48)", full.reverse(0, 48), 48);
        Check.due("get(0)", full.get(0), 147);
        Check.due("get(47)", full.get(47), 100);
    }

    /** "d not -1000000 to 1000000 .. answers BAD_ARG", though every sum would be a number. */
    private static void raiseDOutOfRange() {
        State s = State.of(TOP, -TOP).withClip(9);
        s.stays("raise(0, 1, -TOP - 1)", x -> x.raise(0, 1, -TOP - 1), BAD_ARG);
        s.stays("raise(1, 2, TOP + 1)", x -> x.raise(1, 2, TOP + 1), BAD_ARG);
        s.stays("raise(0, 1, LEAST)", x -> x.raise(0, 1, LEAST), BAD_ARG);
        s.stays("raise(1, 2, MOST)", x -> x.raise(1, 2, MOST), BAD_ARG);
        s.becomes("raise(0, 1, -TOP)", x -> x.raise(0, 1, -TOP), 1, State.of(0, -TOP).withClip(9));
        s.becomes("raise(1, 2, TOP)", x -> x.raise(1, 2, TOP), 1, State.of(TOP, 0).withClip(9));
    }

    /** "Adds d to every number of the stretch", up and down to the last number there is. */
    private static void raiseToTheLimit() {
        State s = State.of(TOP - 3, 0, 3 - TOP).withClip(9);
        s.becomes("raise(0, 2, 3)", x -> x.raise(0, 2, 3), 2, State.of(TOP, 3, 3 - TOP).withClip(9));
        s.becomes("raise(1, 3, -3)", x -> x.raise(1, 3, -3), 2, State.of(TOP - 3, -3, -TOP).withClip(9));
        s.stays("raise(0, 3, 0)", x -> x.raise(0, 3, 0), 3);
    }

    /** "or some sum would be no number, answers BAD_ARG": wherever in the stretch that sum is, none is raised. */
    private static void raiseSomeSumNoNumber() {
        for (int p = 0; p < 3; p++) {
            int at = p;
            int[] high = {1, 2, 3, TOP};
            int[] low = {1, 2, 3, -TOP};
            high[at] = TOP;
            low[at] = -TOP;
            State above = State.of(high).withClip(9);
            above.stays("raise(0, 3, 1)", x -> x.raise(0, 3, 1), BAD_ARG);
            above.stays("raise(0, 3, TOP)", x -> x.raise(0, 3, TOP), BAD_ARG);
            State below = State.of(low).withClip(9);
            below.stays("raise(0, 3, -1)", x -> x.raise(0, 3, -1), BAD_ARG);
            below.stays("raise(0, 3, -TOP)", x -> x.raise(0, 3, -TOP), BAD_ARG);
        }
        State beside = State.of(TOP, 1, TOP).withClip(TOP);
        State then = State.of(TOP, 2, TOP).withClip(TOP);
        beside.becomes("raise(1, 2, 1), those beside it do not count", x -> x.raise(1, 2, 1), 1, then);
    }

    /** The order "the stretch; d" with an empty stretch: no sum is wrong, but d can be. */
    private static void raiseOfNone() {
        State s = State.of(TOP, -TOP).withClip(9);
        for (int p = 0; p <= 2; p++) {
            int i = p;
            s.stays("raise(" + i + ", " + i + ", TOP)", x -> x.raise(i, i, TOP), 0);
            s.stays("raise(" + i + ", " + i + ", -TOP)", x -> x.raise(i, i, -TOP), 0);
            for (int d : NO_NUMBERS) {
                s.stays("raise(" + i + ", " + i + ", " + d + ")", x -> x.raise(i, i, d), BAD_ARG);
            }
        }
    }

    /** "Every number v of the stretch becomes -v. Answers j - i.", from the shortest to the longest. */
    private static void negateShortAndLong() {
        State s = State.of(TOP, 0, -TOP).withClip(9);
        s.stays("negate(0, 0)", x -> x.negate(0, 0), 0);
        s.stays("negate(3, 3)", x -> x.negate(3, 3), 0);
        s.stays("negate(1, 2) of 0", x -> x.negate(1, 2), 1);
        s.becomes("negate(0, 1)", x -> x.negate(0, 1), 1, State.of(-TOP, 0, -TOP).withClip(9));
        s.becomes("negate(2, 3)", x -> x.negate(2, 3), 1, State.of(TOP, 0, TOP).withClip(9));
        s.becomes("negate(0, 3)", x -> x.negate(0, 3), 3, State.of(-TOP, 0, TOP).withClip(9));
        State.of().stays("negate(0, 0)", x -> x.negate(0, 0), 0);
        Check.due("negate(0, 48)", State.ofSizes(48, 0).make().negate(0, 48), 48);
    }

    /** "Moves the first k numbers of the stretch behind its others", where it has no first ones or no others. */
    private static void rotateNoneAndAll() {
        State s = State.of(1, 2, 3, 4, 5).withClip(9);
        s.stays("rotate(1, 4, 0)", x -> x.rotate(1, 4, 0), 0);
        s.stays("rotate(1, 4, 3)", x -> x.rotate(1, 4, 3), 0);
        s.becomes("rotate(1, 4, 1)", x -> x.rotate(1, 4, 1), 0, State.of(1, 3, 4, 2, 5).withClip(9));
        s.becomes("rotate(1, 4, 2)", x -> x.rotate(1, 4, 2), 0, State.of(1, 4, 2, 3, 5).withClip(9));
        s.becomes("rotate(0, 5, 4)", x -> x.rotate(0, 5, 4), 0, State.of(5, 1, 2, 3, 4).withClip(9));
        State.ofSizes(48, 0).stays("rotate(0, 48, 48)", x -> x.rotate(0, 48, 48), 0);
    }

    /** "k not 0 to j - i answers BAD_ARG". */
    private static void rotateKNot0ToJLessI() {
        State s = State.of(1, 2, 3, 4, 5).withClip(9);
        for (int k : new int[] {-1, 4, 5, 48, MOST, LEAST}) {
            s.stays("rotate(1, 4, " + k + ")", x -> x.rotate(1, 4, k), BAD_ARG);
        }
        State.ofSizes(48, 0).stays("rotate(0, 48, 49)", x -> x.rotate(0, 48, 49), BAD_ARG);
    }

    /** "k not 0 to j - i", where that leaves 0 alone. */
    private static void rotateOfNone() {
        State s = State.of(1, 2).withClip(9);
        for (int p = 0; p <= 2; p++) {
            int i = p;
            s.stays("rotate(" + i + ", " + i + ", 0)", x -> x.rotate(i, i, 0), 0);
            s.stays("rotate(" + i + ", " + i + ", 1)", x -> x.rotate(i, i, 1), BAD_ARG);
            s.stays("rotate(" + i + ", " + i + ", -1)", x -> x.rotate(i, i, -1), BAD_ARG);
        }
    }
}
