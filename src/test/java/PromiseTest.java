/** Each promise of the document by hand: ordinary inputs, the edges it names, wrong inputs. */
public final class PromiseTest {
    private static final int BAD_ARG = SplayRow.BAD_ARG;
    private static final int FULL = SplayRow.FULL;
    private static final int NONE = SplayRow.NONE;
    private static final int TOP = 1000000;
    private static final int MOST = Integer.MAX_VALUE;
    private static final int LEAST = Integer.MIN_VALUE;

    public static void main(String[] args) {
        promise1NewObject();
        promise2Insert();
        promise2InsertWhenFull();
        promise3InsertRun();
        promise3InsertRunWrong();
        promise3InsertRunWhenFull();
        promise4Size();
        promise5Get();
        promise6Set();
        promise7Cut();
        promise8Copy();
        promise8CopyWhenFull();
        promise9Paste();
        promise10Clip();
        promise11Reverse();
        promise12Raise();
        promise13Negate();
        promise14Rotate();
        promise15Sum();
        promise16Greatest();
        promise17GreatestAt();
        promise18FirstFrom();
        promise19Weighted();
        promise20Alike();
        Check.finish();
    }

    private static void promise1NewObject() {
        SplayRow x = new SplayRow();
        Check.due("new: size()", x.size(), 0);
        Check.due("new: clip()", x.clip(), 0);
        Check.due("new: paste(0)", x.paste(0), 0);
        SplayRow other = new SplayRow();
        Check.due("insert(0, 1)", x.insert(0, 1), 1);
        Check.row("another object stays as it is", other);
    }

    private static void promise2Insert() {
        SplayRow x = new SplayRow();
        Check.due("insert(0, 5)", x.insert(0, 5), 1);
        Check.due("insert(1, 9) at the end", x.insert(1, 9), 2);
        Check.due("insert(0, TOP) at the front", x.insert(0, TOP), 3);
        Check.due("insert(1, -TOP) between", x.insert(1, -TOP), 4);
        Check.row("insert", x, TOP, -TOP, 5, 9);
        Check.due("insert(-1, 0)", x.insert(-1, 0), BAD_ARG);
        Check.due("insert(5, 0)", x.insert(5, 0), BAD_ARG);
        Check.due("insert(MOST, 0)", x.insert(MOST, 0), BAD_ARG);
        Check.due("insert(LEAST, 0)", x.insert(LEAST, 0), BAD_ARG);
        Check.due("insert(0, TOP + 1)", x.insert(0, TOP + 1), BAD_ARG);
        Check.due("insert(0, -TOP - 1)", x.insert(0, -TOP - 1), BAD_ARG);
        Check.due("insert(0, LEAST)", x.insert(0, LEAST), BAD_ARG);
        Check.row("refused insert", x, TOP, -TOP, 5, 9);
    }

    private static void promise2InsertWhenFull() {
        SplayRow x = new SplayRow();
        for (int t = 0; t < 48; t++) {
            Check.due("insert number " + t, x.insert(t / 2, t), t + 1);
        }
        Check.due("full: insert(0, 1)", x.insert(0, 1), FULL);
        Check.due("full: insert(48, 1)", x.insert(48, 1), FULL);
        Check.due("full: insert(49, 1), BAD_ARG first", x.insert(49, 1), BAD_ARG);
        Check.due("full: insert(0, TOP + 1), BAD_ARG first", x.insert(0, TOP + 1), BAD_ARG);
        Check.due("full: size()", x.size(), 48);
        Check.due("cut(0, 20)", x.cut(0, 20), 20);
        Check.due("full with the clip: insert(0, 1)", x.insert(0, 1), FULL);
        Check.due("cut(0, 19)", x.cut(0, 19), 19);
        Check.due("one free: insert(9, 1)", x.insert(9, 1), 10);
    }

    private static void promise3InsertRun() {
        SplayRow x = new SplayRow();
        Check.due("insertRun(0, 3, 1, 2)", x.insertRun(0, 3, 1, 2), 3);
        Check.due("insertRun(1, 2, 10, -7)", x.insertRun(1, 2, 10, -7), 5);
        Check.due("insertRun(5, 1, 8, TOP) looks at no second number", x.insertRun(5, 1, 8, TOP), 6);
        Check.due("insertRun(2, 0, TOP, TOP) puts nothing in", x.insertRun(2, 0, TOP, TOP), 6);
        Check.due("insertRun(2, 0, TOP, -TOP) looks at no last number", x.insertRun(2, 0, TOP, -TOP), 6);
        Check.due("insertRun(6, 2, 4, 0)", x.insertRun(6, 2, 4, 0), 8);
        Check.row("insertRun", x, 1, 10, 3, 3, 5, 8, 4, 4);
        Check.due("insertRun(0, 3, -TOP, TOP) from limit to limit", x.insertRun(0, 3, -TOP, TOP), 11);
        Check.due("insertRun(0, 3, TOP, -TOP) from limit to limit", x.insertRun(0, 3, TOP, -TOP), 14);
        Check.row("insertRun at the limits", x, TOP, 0, -TOP, -TOP, 0, TOP, 1, 10, 3, 3, 5, 8, 4, 4);
        SplayRow whole = new SplayRow();
        Check.due("insertRun(0, 48, 3, -1)", whole.insertRun(0, 48, 3, -1), 48);
        Check.due("get(47)", whole.get(47), -44);
    }

    private static void promise3InsertRunWrong() {
        SplayRow x = Check.rowOf(1, 2);
        Check.due("insertRun(-1, 1, 0, 0)", x.insertRun(-1, 1, 0, 0), BAD_ARG);
        Check.due("insertRun(3, 1, 0, 0)", x.insertRun(3, 1, 0, 0), BAD_ARG);
        Check.due("insertRun(3, 0, 0, 0)", x.insertRun(3, 0, 0, 0), BAD_ARG);
        Check.due("insertRun(0, -1, 0, 0)", x.insertRun(0, -1, 0, 0), BAD_ARG);
        Check.due("insertRun(0, 49, 0, 0)", x.insertRun(0, 49, 0, 0), BAD_ARG);
        Check.due("insertRun(0, MOST, 0, 0)", x.insertRun(0, MOST, 0, 0), BAD_ARG);
        Check.due("insertRun(0, LEAST, 0, 0)", x.insertRun(0, LEAST, 0, 0), BAD_ARG);
        Check.due("insertRun(0, 1, TOP + 1, 0)", x.insertRun(0, 1, TOP + 1, 0), BAD_ARG);
        Check.due("insertRun(0, 2, -TOP - 1, 1)", x.insertRun(0, 2, -TOP - 1, 1), BAD_ARG);
        Check.due("insertRun(0, 0, TOP + 1, 0) though it puts nothing in", x.insertRun(0, 0, TOP + 1, 0), BAD_ARG);
        Check.due("insertRun(0, 0, 0, TOP + 1)", x.insertRun(0, 0, 0, TOP + 1), BAD_ARG);
        Check.due("insertRun(0, 1, 0, TOP + 1)", x.insertRun(0, 1, 0, TOP + 1), BAD_ARG);
        Check.due("insertRun(0, 1, 0, -TOP - 1)", x.insertRun(0, 1, 0, -TOP - 1), BAD_ARG);
        Check.due("insertRun(0, 2, 1, TOP)", x.insertRun(0, 2, 1, TOP), BAD_ARG);
        Check.due("insertRun(0, 2, -1, -TOP)", x.insertRun(0, 2, -1, -TOP), BAD_ARG);
        Check.due("insertRun(0, 48, 0, TOP)", x.insertRun(0, 48, 0, TOP), BAD_ARG);
        Check.row("refused insertRun", x, 1, 2);
    }

    private static void promise3InsertRunWhenFull() {
        SplayRow x = Check.rowOf(1, 2);
        Check.due("copy(0, 1)", x.copy(0, 1), 1);
        Check.due("insertRun(0, 46, 0, 0) beside a clip of 1", x.insertRun(0, 46, 0, 0), FULL);
        Check.due("insertRun(0, 48, 0, 0)", x.insertRun(0, 48, 0, 0), FULL);
        Check.due("insertRun(0, 48, TOP, 1), BAD_ARG first", x.insertRun(0, 48, TOP, 1), BAD_ARG);
        Check.row("refused insertRun", x, 1, 2);
        Check.due("insertRun(2, 45, 0, 0)", x.insertRun(2, 45, 0, 0), 47);
        Check.due("full: insertRun(0, 1, 0, 0)", x.insertRun(0, 1, 0, 0), FULL);
        Check.due("full: insertRun(0, 0, 0, 0), 48 numbers are there", x.insertRun(0, 0, 0, 0), FULL);
        Check.due("full: insertRun(48, 0, 0, 0), BAD_ARG first", x.insertRun(48, 0, 0, 0), BAD_ARG);
        Check.due("full: insertRun(0, 49, 0, 0), BAD_ARG first", x.insertRun(0, 49, 0, 0), BAD_ARG);
        Check.due("full: size()", x.size(), 47);
        Check.due("full: clip()", x.clip(), 1);
    }

    private static void promise4Size() {
        SplayRow x = Check.rowOf(4, 5, 6);
        Check.due("size()", x.size(), 3);
        Check.due("copy(0, 2)", x.copy(0, 2), 2);
        Check.due("size() without the clip", x.size(), 3);
        Check.due("cut(0, 2)", x.cut(0, 2), 2);
        Check.due("size() after cut", x.size(), 1);
        Check.due("paste(1)", x.paste(1), 3);
        Check.due("size() after paste", x.size(), 3);
    }

    private static void promise5Get() {
        SplayRow x = Check.rowOf(4, -5, 6);
        Check.row("get", x, 4, -5, 6);
        Check.due("get(-1)", x.get(-1), 0);
        Check.due("get(3)", x.get(3), 0);
        Check.due("get(MOST)", x.get(MOST), 0);
        Check.due("get(LEAST)", x.get(LEAST), 0);
        Check.due("cut(1, 3)", x.cut(1, 3), 2);
        Check.due("get(1) where a number stood", x.get(1), 0);
    }

    private static void promise6Set() {
        SplayRow x = Check.rowOf(4, 5, 6);
        Check.due("set(0, TOP)", x.set(0, TOP), 0);
        Check.due("set(2, -TOP)", x.set(2, -TOP), 0);
        Check.row("set", x, TOP, 5, -TOP);
        Check.due("set(-1, 0)", x.set(-1, 0), BAD_ARG);
        Check.due("set(3, 0)", x.set(3, 0), BAD_ARG);
        Check.due("set(48, 0)", x.set(48, 0), BAD_ARG);
        Check.due("set(LEAST, 0)", x.set(LEAST, 0), BAD_ARG);
        Check.due("set(1, TOP + 1)", x.set(1, TOP + 1), BAD_ARG);
        Check.due("set(1, -TOP - 1)", x.set(1, -TOP - 1), BAD_ARG);
        Check.row("refused set", x, TOP, 5, -TOP);
    }

    private static void promise7Cut() {
        SplayRow x = Check.rowOf(1, 2, 3, 4, 5);
        Check.due("cut(1, 3)", x.cut(1, 3), 2);
        Check.row("cut", x, 1, 4, 5);
        Check.due("clip()", x.clip(), 2);
        wrongStretches("cut", x, (i, j) -> x.cut(i, j), BAD_ARG);
        Check.row("refused cut", x, 1, 4, 5);
        Check.due("clip() after refused cuts", x.clip(), 2);
        Check.due("cut(2, 3), the old clip is gone", x.cut(2, 3), 1);
        Check.due("paste(0)", x.paste(0), 3);
        Check.row("paste", x, 5, 1, 4);
        Check.due("cut(0, 3)", x.cut(0, 3), 3);
        Check.row("cut of all", x);
        Check.due("cut(0, 0) leaves an empty clip", x.cut(0, 0), 0);
        Check.due("clip()", x.clip(), 0);
    }

    private static void promise8Copy() {
        SplayRow x = Check.rowOf(1, 2, 3, 4);
        Check.due("copy(1, 4)", x.copy(1, 4), 3);
        Check.row("copy", x, 1, 2, 3, 4);
        wrongStretches("copy", x, (i, j) -> x.copy(i, j), BAD_ARG);
        Check.due("clip() after refused copies", x.clip(), 3);
        Check.due("copy(0, 2), the old clip is gone", x.copy(0, 2), 2);
        Check.due("set(0, 9) leaves the clip alone", x.set(0, 9), 0);
        Check.due("paste(4)", x.paste(4), 6);
        Check.row("paste", x, 9, 2, 3, 4, 1, 2);
        Check.due("copy(0, 3)", x.copy(0, 3), 3);
        Check.due("copy(2, 2) leaves an empty clip", x.copy(2, 2), 0);
        Check.due("clip()", x.clip(), 0);
    }

    private static void promise8CopyWhenFull() {
        SplayRow x = new SplayRow();
        Check.due("insertRun(0, 30, 0, 1)", x.insertRun(0, 30, 0, 1), 30);
        Check.due("copy(0, 18) fills up", x.copy(0, 18), 18);
        Check.due("copy(5, 23) counts no old clip", x.copy(5, 23), 18);
        Check.due("copy(0, 19)", x.copy(0, 19), FULL);
        Check.due("copy(0, 31), the stretch first", x.copy(0, 31), BAD_ARG);
        Check.due("clip() after refused copies", x.clip(), 18);
        Check.due("paste(0)", x.paste(0), 48);
        Check.due("get(0) is of the clip before", x.get(0), 5);
        Check.due("copy(48, 48) of nothing", x.copy(48, 48), 0);
        Check.due("copy(47, 48)", x.copy(47, 48), FULL);
    }

    private static void promise9Paste() {
        SplayRow x = Check.rowOf(1, 2, 3, 4, 5);
        Check.due("cut(1, 3)", x.cut(1, 3), 2);
        Check.due("paste(-1)", x.paste(-1), BAD_ARG);
        Check.due("paste(4)", x.paste(4), BAD_ARG);
        Check.due("paste(MOST)", x.paste(MOST), BAD_ARG);
        Check.due("paste(LEAST)", x.paste(LEAST), BAD_ARG);
        Check.due("clip() after refused pastes", x.clip(), 2);
        Check.row("refused paste", x, 1, 4, 5);
        Check.due("paste(2)", x.paste(2), 5);
        Check.row("paste between", x, 1, 4, 2, 3, 5);
        Check.due("clip() after paste", x.clip(), 0);
        Check.due("paste(2) of nothing", x.paste(2), 5);
        Check.due("paste(6) of nothing", x.paste(6), BAD_ARG);
        Check.row("paste of nothing", x, 1, 4, 2, 3, 5);
        Check.due("cut(0, 4)", x.cut(0, 4), 4);
        Check.due("paste(1) at the end", x.paste(1), 5);
        Check.row("paste at the end", x, 5, 1, 4, 2, 3);
    }

    private static void promise10Clip() {
        SplayRow x = Check.rowOf(1, 2, 3);
        Check.due("clip() at first", x.clip(), 0);
        Check.due("copy(0, 3)", x.copy(0, 3), 3);
        Check.due("clip() after copy", x.clip(), 3);
        Check.due("clip() asked again", x.clip(), 3);
        Check.due("cut(2, 3)", x.cut(2, 3), 1);
        Check.due("clip() after cut", x.clip(), 1);
        Check.due("paste(0)", x.paste(0), 3);
        Check.due("clip() after paste", x.clip(), 0);
    }

    private static void promise11Reverse() {
        SplayRow x = Check.rowOf(1, 2, 3, 4, 5, 6);
        Check.due("reverse(1, 4) of odd length", x.reverse(1, 4), 3);
        Check.row("reverse", x, 1, 4, 3, 2, 5, 6);
        Check.due("reverse(0, 6) of even length", x.reverse(0, 6), 6);
        Check.row("reverse", x, 6, 5, 2, 3, 4, 1);
        Check.due("reverse(2, 2)", x.reverse(2, 2), 0);
        Check.due("reverse(6, 6)", x.reverse(6, 6), 0);
        Check.due("reverse(3, 4)", x.reverse(3, 4), 1);
        wrongStretches("reverse", x, (i, j) -> x.reverse(i, j), BAD_ARG);
        Check.row("refused reverse", x, 6, 5, 2, 3, 4, 1);
    }

    private static void promise12Raise() {
        SplayRow x = Check.rowOf(1, 2, 3, TOP - 5, -TOP + 5);
        Check.due("raise(1, 3, 10)", x.raise(1, 3, 10), 2);
        Check.due("raise(3, 4, 5) up to the limit", x.raise(3, 4, 5), 1);
        Check.due("raise(4, 5, -5) down to the limit", x.raise(4, 5, -5), 1);
        Check.row("raise", x, 1, 12, 13, TOP, -TOP);
        Check.due("raise(0, 4, 1) fails at its last number", x.raise(0, 4, 1), BAD_ARG);
        Check.due("raise(2, 5, -1) fails at its last number", x.raise(2, 5, -1), BAD_ARG);
        Check.due("raise(4, 5, TOP + 1)", x.raise(4, 5, TOP + 1), BAD_ARG);
        Check.due("raise(3, 4, -TOP - 1)", x.raise(3, 4, -TOP - 1), BAD_ARG);
        Check.due("raise(0, 1, LEAST)", x.raise(0, 1, LEAST), BAD_ARG);
        Check.due("raise(0, 1, MOST)", x.raise(0, 1, MOST), BAD_ARG);
        Check.due("raise(5, 5, TOP) of nothing", x.raise(5, 5, TOP), 0);
        Check.due("raise(5, 5, TOP + 1) of nothing", x.raise(5, 5, TOP + 1), BAD_ARG);
        wrongStretches("raise", x, (i, j) -> x.raise(i, j, 0), BAD_ARG);
        Check.row("refused raise", x, 1, 12, 13, TOP, -TOP);
        Check.due("raise(3, 4, -TOP)", x.raise(3, 4, -TOP), 1);
        Check.due("raise(4, 5, TOP)", x.raise(4, 5, TOP), 1);
        Check.row("raise by the limits", x, 1, 12, 13, 0, 0);
    }

    private static void promise13Negate() {
        SplayRow x = Check.rowOf(1, -2, 0, TOP, -TOP);
        Check.due("negate(1, 5)", x.negate(1, 5), 4);
        Check.row("negate", x, 1, 2, 0, -TOP, TOP);
        Check.due("negate(0, 0)", x.negate(0, 0), 0);
        Check.due("negate(5, 5)", x.negate(5, 5), 0);
        wrongStretches("negate", x, (i, j) -> x.negate(i, j), BAD_ARG);
        Check.row("refused negate", x, 1, 2, 0, -TOP, TOP);
    }

    private static void promise14Rotate() {
        SplayRow x = Check.rowOf(1, 2, 3, 4, 5, 6, 7);
        Check.due("rotate(1, 6, 2)", x.rotate(1, 6, 2), 0);
        Check.row("rotate", x, 1, 4, 5, 6, 2, 3, 7);
        Check.due("rotate(0, 7, 6)", x.rotate(0, 7, 6), 0);
        Check.row("rotate", x, 7, 1, 4, 5, 6, 2, 3);
        Check.due("rotate(2, 5, 0)", x.rotate(2, 5, 0), 0);
        Check.due("rotate(2, 5, 3)", x.rotate(2, 5, 3), 0);
        Check.due("rotate(7, 7, 0)", x.rotate(7, 7, 0), 0);
        Check.due("rotate(7, 7, 1)", x.rotate(7, 7, 1), BAD_ARG);
        Check.due("rotate(2, 5, 4)", x.rotate(2, 5, 4), BAD_ARG);
        Check.due("rotate(2, 5, -1)", x.rotate(2, 5, -1), BAD_ARG);
        Check.due("rotate(2, 5, MOST)", x.rotate(2, 5, MOST), BAD_ARG);
        Check.due("rotate(2, 5, LEAST)", x.rotate(2, 5, LEAST), BAD_ARG);
        wrongStretches("rotate", x, (i, j) -> x.rotate(i, j, 0), BAD_ARG);
        Check.row("refused rotate", x, 7, 1, 4, 5, 6, 2, 3);
    }

    private static void promise15Sum() {
        SplayRow x = Check.rowOf(5, -7, 11, TOP);
        Check.due("sum(0, 4)", x.sum(0, 4), TOP + 9);
        Check.due("sum(1, 3)", x.sum(1, 3), 4);
        Check.due("sum(2, 2)", x.sum(2, 2), 0);
        wrongStretches("sum", x, (i, j) -> x.sum(i, j), 0);
        SplayRow most = new SplayRow();
        Check.due("insertRun(0, 48, -TOP, 0)", most.insertRun(0, 48, -TOP, 0), 48);
        Check.due("sum(0, 48)", most.sum(0, 48), -48L * TOP);
    }

    private static void promise16Greatest() {
        SplayRow x = Check.rowOf(-5, -7, -3, -TOP, 4);
        Check.due("greatest(0, 5)", x.greatest(0, 5), 4);
        Check.due("greatest(0, 4) below 0", x.greatest(0, 4), -3);
        Check.due("greatest(0, 2) at its front", x.greatest(0, 2), -5);
        Check.due("greatest(3, 4) of one", x.greatest(3, 4), -TOP);
        Check.due("greatest(2, 2) of none", x.greatest(2, 2), 0);
        Check.due("greatest(5, 5) of none", x.greatest(5, 5), 0);
        wrongStretches("greatest", x, (i, j) -> x.greatest(i, j), 0);
    }

    private static void promise17GreatestAt() {
        SplayRow x = Check.rowOf(3, 8, 2, 8, 3);
        Check.due("greatestAt(0, 5), the least place", x.greatestAt(0, 5), 1);
        Check.due("greatestAt(2, 5)", x.greatestAt(2, 5), 3);
        Check.due("greatestAt(4, 5)", x.greatestAt(4, 5), 4);
        Check.due("greatestAt(0, 1)", x.greatestAt(0, 1), 0);
        Check.due("greatestAt(2, 2) of none", x.greatestAt(2, 2), NONE);
        Check.due("greatestAt(5, 5) of none", x.greatestAt(5, 5), NONE);
        wrongStretches("greatestAt", x, (i, j) -> x.greatestAt(i, j), BAD_ARG);
    }

    private static void promise18FirstFrom() {
        SplayRow x = Check.rowOf(3, 8, -2, 8, 3);
        Check.due("firstFrom(0, 8)", x.firstFrom(0, 8), 1);
        Check.due("firstFrom(2, 4), a greater one", x.firstFrom(2, 4), 3);
        Check.due("firstFrom(1, 8), i itself", x.firstFrom(1, 8), 1);
        Check.due("firstFrom(4, 3), the last place", x.firstFrom(4, 3), 4);
        Check.due("firstFrom(4, 4)", x.firstFrom(4, 4), NONE);
        Check.due("firstFrom(0, 9)", x.firstFrom(0, 9), NONE);
        Check.due("firstFrom(0, MOST), v may be any int", x.firstFrom(0, MOST), NONE);
        Check.due("firstFrom(2, LEAST), v may be any int", x.firstFrom(2, LEAST), 2);
        Check.due("firstFrom(5, LEAST)", x.firstFrom(5, LEAST), NONE);
        Check.due("firstFrom(6, LEAST)", x.firstFrom(6, LEAST), NONE);
        Check.due("firstFrom(-1, LEAST)", x.firstFrom(-1, LEAST), NONE);
        Check.due("firstFrom(LEAST, LEAST)", x.firstFrom(LEAST, LEAST), NONE);
        Check.due("firstFrom(MOST, LEAST)", x.firstFrom(MOST, LEAST), NONE);
        Check.due("cut(3, 5)", x.cut(3, 5), 2);
        Check.due("firstFrom(2, 3) where a number stood", x.firstFrom(2, 3), NONE);
    }

    private static void promise19Weighted() {
        SplayRow x = Check.rowOf(5, -7, 11, 2);
        Check.due("weighted(0, 4)", x.weighted(0, 4), 5 - 14 + 33 + 8);
        Check.due("weighted(1, 3) counts from its own front", x.weighted(1, 3), -7 + 22);
        Check.due("weighted(3, 4)", x.weighted(3, 4), 2);
        Check.due("weighted(2, 2)", x.weighted(2, 2), 0);
        wrongStretches("weighted", x, (i, j) -> x.weighted(i, j), 0);
        SplayRow most = new SplayRow();
        Check.due("insertRun(0, 48, TOP, 0)", most.insertRun(0, 48, TOP, 0), 48);
        Check.due("weighted(0, 48)", most.weighted(0, 48), 1176L * TOP);
    }

    private static void promise20Alike() {
        SplayRow x = Check.rowOf(1, 2, 1, 2, 1, 3);
        Check.due("alike(0, 2, 3)", x.alike(0, 2, 3), true);
        Check.due("alike(2, 0, 3)", x.alike(2, 0, 3), true);
        Check.due("alike(0, 2, 4), other at its last number", x.alike(0, 2, 4), false);
        Check.due("alike(1, 5, 1), other at its first number", x.alike(1, 5, 1), false);
        Check.due("alike(0, 1, 2), same numbers in another order", x.alike(0, 1, 2), false);
        Check.due("alike(3, 3, 3)", x.alike(3, 3, 3), true);
        Check.due("alike(0, 6, 0)", x.alike(0, 6, 0), true);
        Check.due("alike(0, 7, 0)", x.alike(0, 7, 0), false);
        Check.due("alike(7, 0, 0)", x.alike(7, 0, 0), false);
        Check.due("alike(-1, 0, 0)", x.alike(-1, 0, 0), false);
        Check.due("alike(0, -1, 1)", x.alike(0, -1, 1), false);
        Check.due("alike(4, 4, 3)", x.alike(4, 4, 3), false);
        Check.due("alike(0, 0, 7)", x.alike(0, 0, 7), false);
        Check.due("alike(3, 3, -1)", x.alike(3, 3, -1), false);
        Check.due("alike(3, 3, LEAST)", x.alike(3, 3, LEAST), false);
        Check.due("alike(3, 3, MOST), its end beyond an int", x.alike(3, 3, MOST), false);
        Check.due("alike(MOST, MOST, MOST)", x.alike(MOST, MOST, MOST), false);
        Check.due("alike(MOST, 0, 1)", x.alike(MOST, 0, 1), false);
        Check.due("alike(0, MOST, 1)", x.alike(0, MOST, 1), false);
        Check.due("alike(LEAST, LEAST, LEAST)", x.alike(LEAST, LEAST, LEAST), false);
    }

    private interface StretchCall {
        int on(int i, int j);
    }

    /** Calls with pairs that are no stretch of x, which none of these calls may change. */
    private static void wrongStretches(String name, SplayRow x, StretchCall call, int want) {
        int n = x.size();
        int[][] pairs = {
            {-1, 0}, {-1, -1}, {-1, n}, {0, n + 1}, {n, n + 1}, {n + 1, n + 1}, {2, 1}, {n, 0}, {n + 1, n},
            {0, -1}, {LEAST, 0}, {0, LEAST}, {LEAST, LEAST}, {0, MOST}, {MOST, MOST}, {LEAST, MOST}, {MOST, LEAST},
        };
        for (int[] pair : pairs) {
            Check.due(name + "(" + pair[0] + ", " + pair[1] + ")", call.on(pair[0], pair[1]), want);
            Check.due(name + " refused: size()", x.size(), n);
        }
    }
}
