/** The boundary cases of the calls that only ask, a sentence of the document to a method; none changes a thing. */
public final class AskBoundaryTest {
    private static final int BAD_ARG = SplayRow.BAD_ARG;
    private static final int FULL = SplayRow.FULL;
    private static final int NONE = SplayRow.NONE;
    private static final int TOP = 1000000;
    private static final int MOST = Integer.MAX_VALUE;
    private static final int LEAST = Integer.MIN_VALUE;
    private static final State EMPTY = State.of();
    private static final State SOME = State.of(4, -5, 6).withClip(7, 8);

    public static void main(String[] args) {
        sizeFromEmptyToFull();
        sizeAfterARefusal();
        getNone();
        getWhereANumberStood();
        clipFromEmptyToFull();
        clipAfterARefusal();
        sumNoSuchStretch();
        sumOfNoneAndOfOne();
        greatestNoSuchStretch();
        greatestOfNone();
        greatestBelowZero();
        greatestAtLeastPlace();
        greatestAtNoSuchStretch();
        greatestAtOfNone();
        firstFromLeastPlaceFromIOn();
        firstFromVOrGreater();
        firstFromThereIsNone();
        firstFromINot0ToN();
        weightedCountsFromItsOwnFront();
        weightedNoSuchStretch();
        weightedOfNone();
        alikeSameNumbersSameOrder();
        alikeOfNone();
        alikeNoStretch();
        alikeKBelow0();
        alikeEndBeyondAnInt();
        Check.finish();
    }

    /** "n", from 0 to 48; the clip does not count. */
    private static void sizeFromEmptyToFull() {
        for (int n = 0; n <= 48; n++) {
            State.ofSizes(n, 48 - n).stays("size()", x -> x.size(), n);
            State.ofSizes(n, 0).stays("size()", x -> x.size(), n);
        }
    }

    /** "A refused call .. changes nothing", seen by size. */
    private static void sizeAfterARefusal() {
        SplayRow x = State.ofSizes(47, 1).make();
        Check.due("insert(0, 1)", x.insert(0, 1), FULL);
        Check.due("cut(0, 48)", x.cut(0, 48), BAD_ARG);
        Check.due("paste(48)", x.paste(48), BAD_ARG);
        Check.due("size()", x.size(), 47);
    }

    /** "0 if there is none." */
    private static void getNone() {
        for (int i : new int[] {-1, 3, 4, 47, 48, MOST, LEAST}) {
            SOME.stays("get(" + i + ")", x -> x.get(i), 0);
        }
        EMPTY.stays("get(0)", x -> x.get(0), 0);
        EMPTY.stays("get(-1)", x -> x.get(-1), 0);
        State.ofSizes(48, 0).stays("get(48)", x -> x.get(48), 0);
        State.ofSizes(0, 48).stays("get(0)", x -> x.get(0), 0);
    }

    /** "0 if there is none", though there was one before. */
    private static void getWhereANumberStood() {
        SplayRow x = SOME.make();
        Check.due("cut(0, 2)", x.cut(0, 2), 2);
        Check.due("get(0)", x.get(0), 6);
        Check.due("get(1)", x.get(1), 0);
        Check.due("get(2)", x.get(2), 0);
    }

    /** "The number of numbers of the clip", from 0 to 48; the row does not count. */
    private static void clipFromEmptyToFull() {
        for (int c = 0; c <= 48; c++) {
            State.ofSizes(48 - c, c).stays("clip()", x -> x.clip(), c);
            State.ofSizes(0, c).stays("clip()", x -> x.clip(), c);
        }
    }

    /** "A refused call .. changes nothing", seen by clip. */
    private static void clipAfterARefusal() {
        SplayRow x = State.ofSizes(40, 3).make();
        Check.due("copy(0, 9)", x.copy(0, 9), FULL);
        Check.due("copy(0, 41)", x.copy(0, 41), BAD_ARG);
        Check.due("cut(-1, 0)", x.cut(-1, 0), BAD_ARG);
        Check.due("paste(41)", x.paste(41), BAD_ARG);
        Check.due("clip()", x.clip(), 3);
    }

    /** "0 if there is no such stretch", of promise 15. */
    private static void sumNoSuchStretch() {
        SOME.stays("sum(0, 4)", x -> x.sum(0, 4), 0);
        SOME.stays("sum(-1, 3)", x -> x.sum(-1, 3), 0);
        SOME.stays("sum(2, 1)", x -> x.sum(2, 1), 0);
        SOME.stays("sum(LEAST, MOST)", x -> x.sum(LEAST, MOST), 0);
        SOME.stays("sum(0, MOST)", x -> x.sum(0, MOST), 0);
        EMPTY.stays("sum(0, 1)", x -> x.sum(0, 1), 0);
        State.ofSizes(48, 0).stays("sum(0, 49)", x -> x.sum(0, 49), 0);
    }

    /** "The sum of the numbers of the stretch", which is 0 for none. */
    private static void sumOfNoneAndOfOne() {
        SOME.stays("sum(0, 0)", x -> x.sum(0, 0), 0);
        SOME.stays("sum(3, 3)", x -> x.sum(3, 3), 0);
        SOME.stays("sum(0, 1)", x -> x.sum(0, 1), 4);
        SOME.stays("sum(2, 3)", x -> x.sum(2, 3), 6);
        SOME.stays("sum(0, 3)", x -> x.sum(0, 3), 5);
        EMPTY.stays("sum(0, 0)", x -> x.sum(0, 0), 0);
    }

    /** "0 if there is no such stretch", of promise 16. */
    private static void greatestNoSuchStretch() {
        SOME.stays("greatest(0, 4)", x -> x.greatest(0, 4), 0);
        SOME.stays("greatest(-1, 3)", x -> x.greatest(-1, 3), 0);
        SOME.stays("greatest(3, 0)", x -> x.greatest(3, 0), 0);
        SOME.stays("greatest(4, 4)", x -> x.greatest(4, 4), 0);
        SOME.stays("greatest(LEAST, MOST)", x -> x.greatest(LEAST, MOST), 0);
        EMPTY.stays("greatest(0, 1)", x -> x.greatest(0, 1), 0);
        State.ofSizes(48, 0).stays("greatest(0, 49)", x -> x.greatest(0, 49), 0);
    }

    /** "or it is empty", of promise 16. */
    private static void greatestOfNone() {
        for (int p = 0; p <= 3; p++) {
            int i = p;
            SOME.stays("greatest(" + i + ", " + i + ")", x -> x.greatest(i, i), 0);
        }
        EMPTY.stays("greatest(0, 0)", x -> x.greatest(0, 0), 0);
        State.ofSizes(48, 0).stays("greatest(48, 48)", x -> x.greatest(48, 48), 0);
    }

    /** "The greatest number of the stretch": less than the 0 of no stretch if all of them are. */
    private static void greatestBelowZero() {
        State s = State.of(9, -TOP, -3, -2, 9);
        s.stays("greatest(1, 2)", x -> x.greatest(1, 2), -TOP);
        s.stays("greatest(1, 3)", x -> x.greatest(1, 3), -3);
        s.stays("greatest(1, 4)", x -> x.greatest(1, 4), -2);
        s.stays("greatest(0, 2)", x -> x.greatest(0, 2), 9);
        s.stays("greatest(3, 5)", x -> x.greatest(3, 5), 9);
    }

    /** "The least place of the stretch at which its greatest number stands". */
    private static void greatestAtLeastPlace() {
        State s = State.of(-8, -8, -9, -8).withClip(9);
        s.stays("greatestAt(0, 4)", x -> x.greatestAt(0, 4), 0);
        s.stays("greatestAt(1, 4)", x -> x.greatestAt(1, 4), 1);
        s.stays("greatestAt(2, 4)", x -> x.greatestAt(2, 4), 3);
        s.stays("greatestAt(2, 3)", x -> x.greatestAt(2, 3), 2);
        SplayRow full = State.ofSizes(48, 0).make();
        Check.due("greatestAt(0, 48)", full.greatestAt(0, 48), 47);
        Check.due("negate(0, 48)", full.negate(0, 48), 48);
        Check.due("greatestAt(0, 48)", full.greatestAt(0, 48), 0);
    }

    /** "BAD_ARG if there is no such stretch", of promise 17, though i and j are alike. */
    private static void greatestAtNoSuchStretch() {
        SOME.stays("greatestAt(0, 4)", x -> x.greatestAt(0, 4), BAD_ARG);
        SOME.stays("greatestAt(-1, 3)", x -> x.greatestAt(-1, 3), BAD_ARG);
        SOME.stays("greatestAt(2, 1)", x -> x.greatestAt(2, 1), BAD_ARG);
        SOME.stays("greatestAt(4, 4)", x -> x.greatestAt(4, 4), BAD_ARG);
        SOME.stays("greatestAt(-1, -1)", x -> x.greatestAt(-1, -1), BAD_ARG);
        EMPTY.stays("greatestAt(0, 1)", x -> x.greatestAt(0, 1), BAD_ARG);
        EMPTY.stays("greatestAt(1, 1)", x -> x.greatestAt(1, 1), BAD_ARG);
        State.ofSizes(48, 0).stays("greatestAt(0, 49)", x -> x.greatestAt(0, 49), BAD_ARG);
    }

    /** "NONE if it is empty", of promise 17. */
    private static void greatestAtOfNone() {
        for (int p = 0; p <= 3; p++) {
            int i = p;
            SOME.stays("greatestAt(" + i + ", " + i + ")", x -> x.greatestAt(i, i), NONE);
        }
        EMPTY.stays("greatestAt(0, 0)", x -> x.greatestAt(0, 0), NONE);
        State.ofSizes(48, 0).stays("greatestAt(48, 48)", x -> x.greatestAt(48, 48), NONE);
    }

    /** "The least place from i on": i itself counts, those before it do not, the last place does. */
    private static void firstFromLeastPlaceFromIOn() {
        State s = State.of(5, 1, 5, 5, 7).withClip(9);
        s.stays("firstFrom(0, 5)", x -> x.firstFrom(0, 5), 0);
        s.stays("firstFrom(1, 5)", x -> x.firstFrom(1, 5), 2);
        s.stays("firstFrom(3, 5)", x -> x.firstFrom(3, 5), 3);
        s.stays("firstFrom(0, 6)", x -> x.firstFrom(0, 6), 4);
        s.stays("firstFrom(4, 7)", x -> x.firstFrom(4, 7), 4);
        State.ofSizes(48, 0).stays("firstFrom(0, 147)", x -> x.firstFrom(0, 147), 47);
    }

    /** "whose number is v or greater": v may be any int, a number or not. */
    private static void firstFromVOrGreater() {
        State s = State.of(-TOP, 2, TOP).withClip(9);
        s.stays("firstFrom(0, 2)", x -> x.firstFrom(0, 2), 1);
        s.stays("firstFrom(0, 1)", x -> x.firstFrom(0, 1), 1);
        s.stays("firstFrom(0, 3)", x -> x.firstFrom(0, 3), 2);
        s.stays("firstFrom(0, TOP)", x -> x.firstFrom(0, TOP), 2);
        s.stays("firstFrom(0, -TOP)", x -> x.firstFrom(0, -TOP), 0);
        s.stays("firstFrom(0, -TOP - 1)", x -> x.firstFrom(0, -TOP - 1), 0);
        s.stays("firstFrom(0, LEAST)", x -> x.firstFrom(0, LEAST), 0);
    }

    /** "NONE if there is none". */
    private static void firstFromThereIsNone() {
        State s = State.of(8, 1, TOP, 3).withClip(9);
        s.stays("firstFrom(3, 4)", x -> x.firstFrom(3, 4), NONE);
        s.stays("firstFrom(0, TOP + 1)", x -> x.firstFrom(0, TOP + 1), NONE);
        s.stays("firstFrom(0, MOST)", x -> x.firstFrom(0, MOST), NONE);
        s.stays("firstFrom(4, LEAST), no place is left", x -> x.firstFrom(4, LEAST), NONE);
        EMPTY.stays("firstFrom(0, LEAST)", x -> x.firstFrom(0, LEAST), NONE);
        State.ofSizes(48, 0).stays("firstFrom(48, LEAST)", x -> x.firstFrom(48, LEAST), NONE);
        State.ofSizes(0, 48).stays("firstFrom(0, LEAST)", x -> x.firstFrom(0, LEAST), NONE);
    }

    /** "or i is not 0 to n", though every number of the row would do. */
    private static void firstFromINot0ToN() {
        for (int i : new int[] {-1, -2, 4, 5, 48, MOST, LEAST}) {
            SOME.stays("firstFrom(" + i + ", LEAST)", x -> x.firstFrom(i, LEAST), NONE);
        }
        State.ofSizes(48, 0).stays("firstFrom(49, LEAST)", x -> x.firstFrom(49, LEAST), NONE);
    }

    /** "(p - i + 1) times the number at p": the first number of the stretch once, wherever it stands. */
    private static void weightedCountsFromItsOwnFront() {
        SOME.stays("weighted(0, 1)", x -> x.weighted(0, 1), 4);
        SOME.stays("weighted(2, 3)", x -> x.weighted(2, 3), 6);
        SOME.stays("weighted(1, 3)", x -> x.weighted(1, 3), -5 + 12);
        SOME.stays("weighted(0, 3)", x -> x.weighted(0, 3), 4 - 10 + 18);
        State.ofSizes(48, 0).stays("weighted(47, 48)", x -> x.weighted(47, 48), 147);
    }

    /** "0 if there is no such stretch", of promise 19. */
    private static void weightedNoSuchStretch() {
        SOME.stays("weighted(0, 4)", x -> x.weighted(0, 4), 0);
        SOME.stays("weighted(-1, 3)", x -> x.weighted(-1, 3), 0);
        SOME.stays("weighted(2, 1)", x -> x.weighted(2, 1), 0);
        SOME.stays("weighted(LEAST, MOST)", x -> x.weighted(LEAST, MOST), 0);
        EMPTY.stays("weighted(0, 1)", x -> x.weighted(0, 1), 0);
        State.ofSizes(48, 0).stays("weighted(0, 49)", x -> x.weighted(0, 49), 0);
    }

    /** "The sum over the places p of the stretch", where it has none. */
    private static void weightedOfNone() {
        SOME.stays("weighted(0, 0)", x -> x.weighted(0, 0), 0);
        SOME.stays("weighted(3, 3)", x -> x.weighted(3, 3), 0);
        EMPTY.stays("weighted(0, 0)", x -> x.weighted(0, 0), 0);
    }

    /** "have the same numbers in the same order", also where the stretches overlap or are one. */
    private static void alikeSameNumbersSameOrder() {
        State s = State.of(1, 2, 1, 2, 1, 3).withClip(1, 2);
        alike(s, 0, 2, 3, true);
        alike(s, 2, 0, 3, true);
        alike(s, 3, 3, 3, true);
        alike(s, 0, 0, 6, true);
        alike(s, 5, 5, 1, true);
        alike(s, 0, 2, 4, false);
        alike(s, 0, 1, 2, false);
        alike(s, 4, 5, 1, false);
        alike(State.of(1, 2, 3, 9, 2, 3), 0, 3, 3, false);
        alike(State.ofSizes(48, 0), 0, 0, 48, true);
    }

    /** The stretches (i, i) and (j, j) have the same numbers, none, wherever they are. */
    private static void alikeOfNone() {
        for (int i = 0; i <= 3; i++) {
            for (int j = 0; j <= 3; j++) {
                alike(SOME, i, j, 0, true);
            }
        }
        alike(EMPTY, 0, 0, 0, true);
        alike(State.ofSizes(48, 0), 48, 0, 0, true);
    }

    /** "false if one of them is no stretch of the row", the first or the second alone too. */
    private static void alikeNoStretch() {
        State s = State.of(5, 5, 5).withClip(5);
        alike(s, -1, 0, 1, false);
        alike(s, 0, -1, 1, false);
        alike(s, -1, -1, 1, false);
        alike(s, 3, 0, 1, false);
        alike(s, 0, 3, 1, false);
        alike(s, 2, 0, 2, false);
        alike(s, 0, 2, 2, false);
        alike(s, 0, 0, 4, false);
        alike(s, 4, 0, 0, false);
        alike(s, 0, 4, 0, false);
        alike(s, -1, 0, 0, false);
        alike(s, 0, -1, 0, false);
        alike(EMPTY, 0, 0, 1, false);
        alike(State.ofSizes(48, 0), 0, 0, 49, false);
        alike(State.ofSizes(48, 0), 48, 48, 1, false);
    }

    /** "(k < 0 too)". */
    private static void alikeKBelow0() {
        for (int k : new int[] {-1, -2, -3, LEAST, LEAST + 1}) {
            alike(SOME, 0, 0, k, false);
            alike(SOME, 2, 2, k, false);
            alike(SOME, 3, 3, k, false);
            alike(EMPTY, 0, 0, k, false);
        }
    }

    /** No such stretch is there either where i + k or j + k wraps around. */
    private static void alikeEndBeyondAnInt() {
        alike(SOME, 1, 1, MOST, false);
        alike(SOME, 0, 0, MOST, false);
        alike(SOME, MOST, MOST, 1, false);
        alike(SOME, MOST, MOST, MOST, false);
        alike(SOME, MOST, 0, 1, false);
        alike(SOME, 0, MOST, 1, false);
        alike(SOME, LEAST, LEAST, LEAST, false);
        alike(SOME, LEAST, LEAST, MOST, false);
        alike(SOME, LEAST, 0, 1, false);
        alike(SOME, 0, LEAST, 1, false);
    }

    private static void alike(State s, int i, int j, int k, boolean want) {
        s.stays("alike(" + i + ", " + j + ", " + k + ")", x -> x.alike(i, j, k) ? 1 : 0, want ? 1 : 0);
    }
}
