import java.util.ArrayList;
import java.util.List;
import java.util.function.Supplier;
import java.util.function.ToIntFunction;

/** What the classes of boundary cases share: a furnished press, and the ways in which a call is looked at. */
abstract class Bench {
    static final int OUTSIDE = FoldPress.OUTSIDE, NONE = FoldPress.NONE, FULL = FoldPress.FULL;
    static final int JAMMED = FoldPress.JAMMED, BUSY = FoldPress.BUSY;
    static final int BLANK = -11, BEYOND = -12, SIZE = -13, LARGE = -14, COPY = -15;
    static final int KIND = -16, UNFIT = -17, OPEN = -18, DOUBLE = -19, JAM = -20;
    static final int LOWEST = Integer.MIN_VALUE, HIGHEST = Integer.MAX_VALUE;
    static final int MOST_CALLS = 512;

    /** The folds of press(), by the columns but for ROWS; CROSS is HALF, then ROWS. */
    static final int FLAT = 0, HALF = 1, THIRD = 2, GATE = 3, SHUT = 4, ROWS = 5, CROSS = 6;
    static final int BY_ROWS = 0, BY_COLUMNS = 1;
    static final int BEHIND = 0, INSIDE = 1;
    static final int REST = -1, FEED = 0, PRINT = 1, TURN = 2, FOLD = 3, TRIM = 4, GOOD = 5, SPOILT = 6;

    static final Due T = new Due();

    interface Call extends ToIntFunction<FoldPress> { }

    /**
     * Job 0 of 4 lines, 5 wide: page 1 has the rows "ABCDE", "FGH" and a MISSING one, page 2 is BLANK, page 3 has no
     * rows. Job 1 of 2 lines, 2 wide, has no page. Folds as above. Sheets 0 and 1 have a row of two cells, sheet 2 two
     * such rows, sheet 3 none. Signature 0 is BEHIND and 1 INSIDE. The latest change made the margin 7.
     */
    static FoldPress press() {
        FoldPress x = new FoldPress();
        x.job(4, 5);
        x.job(2, 2);
        for (int page = 1; page <= 3; page++) {
            x.page(0);
        }
        x.rows(0, 1, 3);
        write(x, 1, 0, "ABCDE");
        write(x, 1, 1, "FGH");
        x.rows(0, 3, 0);
        for (int kind = 0; kind <= 4; kind++) {
            x.fold(kind, BY_COLUMNS);
        }
        x.fold(HALF, BY_ROWS);
        x.cross(HALF, ROWS);
        x.sheet(0, 1, 2);
        x.sheet(0, 1, 2);
        x.sheet(0, 2, 2);
        x.sheet(0, 0, 0);
        x.signature(BEHIND);
        x.signature(INSIDE);
        x.margin(7);
        return x;
    }

    /** The same, JAMMED by sheet 1, which is SPOILT. */
    static FoldPress jammedPress() {
        FoldPress x = press();
        x.jam(FEED);
        x.feed(1);
        x.step();
        return x;
    }

    /** Makes a row of job 0 that has just these letters. */
    static void write(FoldPress x, int page, int i, String letters) {
        x.row(0, page, i, letters.length());
        for (int k = 0; k < letters.length(); k++) {
            x.letter(0, page, i, k, letters.charAt(k));
        }
    }

    /** A row of job 0 has just these letters. */
    static void reads(FoldPress x, int page, int i, String letters) {
        T.due(x.size(0, page, i), letters.length());
        for (int k = 0; k < letters.length(); k++) {
            T.due(x.at(0, page, i, k), letters.charAt(k));
        }
    }

    /** Two rows of two cells on a side of a sheet have these pages. */
    static void carries(FoldPress x, int sheet, int side, int... pages) {
        for (int n = 0; n < pages.length; n++) {
            T.due(x.cell(sheet, side, n / 2, n % 2, 0), pages[n]);
        }
    }

    static void steps(FoldPress x, int times) {
        for (int n = 0; n < times; n++) {
            x.step();
        }
    }

    static void stands(FoldPress x, int sheet, int place, int number, int finding) {
        T.due(x.state(sheet, 0), place);
        T.due(x.state(sheet, 1), number);
        T.due(x.state(sheet, 2), finding < 0 ? -10 - finding : finding);
    }

    /** A call on press() has an answer. */
    static void answers(Call call, int want) {
        T.due(call.applyAsInt(press()), want);
    }

    /** A call on press() is refused, and all is as if it had not been made. */
    static void refused(Call call, int refusal) {
        refused(Bench::press, call, refusal);
    }

    static void refused(Supplier<FoldPress> maker, Call call, int refusal) {
        FoldPress x = maker.get();
        T.due(call.applyAsInt(x), refusal);
        T.holds(all(x).equals(all(maker.get())), "the refused call changed something");
    }

    /** A change meets a finding on press() before it has changed anything: it counts, and is undone alone. */
    static void stopped(Call call, int finding) {
        stopped(Bench::press, call, finding);
    }

    static void stopped(Supplier<FoldPress> maker, Call call, int finding) {
        FoldPress x = maker.get();
        int found = x.told(0);
        T.due(call.applyAsInt(x), finding);
        T.due(x.told(0), found + 1);
        T.due(x.told(1), -10 - finding);
        String before = view(maker.get());
        T.holds(view(x).equals(before), "the call changed something that its finding came ahead of");
        T.due(x.undo(), 1);
        T.holds(view(x).equals(before), "undo() took back more than the call that met a finding");
        T.due(x.undo(), 0);
    }

    /** A call that is no change meets a finding on press(): it counts, and undo() takes back what was before it. */
    static void met(Call call, int finding) {
        met(Bench::press, call, finding);
    }

    static void met(Supplier<FoldPress> maker, Call call, int finding) {
        FoldPress x = maker.get();
        int found = x.told(0);
        T.due(call.applyAsInt(x), finding);
        T.due(x.told(0), found + 1);
        T.due(x.told(1), -10 - finding);
        FoldPress y = maker.get();
        T.holds(view(x).equals(view(y)), "a call that is no change changed something");
        T.due(x.undo(), y.undo());
        T.holds(view(x).equals(view(y)), "a call that is no change took the place of the latest change");
    }

    /** A change is done on press(), and undo() takes it back, once, and nothing that was before it. */
    static void takenBack(Call change) {
        takenBack(Bench::press, change);
    }

    static void takenBack(Supplier<FoldPress> maker, Call change) {
        FoldPress x = maker.get();
        T.holds(change.applyAsInt(x) >= 0, "the change was not done");
        T.due(x.undo(), 1);
        T.holds(view(x).equals(view(maker.get())), "undo() did not take back the change, and it alone");
        T.due(x.undo(), 0);
    }

    /** A change is refused while the press is JAMMED, whether it would else be done or refused. */
    static void jammedAheadOfAll(Call done, Call refusedElse) {
        T.holds(done.applyAsInt(press()) >= 0, "the call is not done without a jam");
        T.holds(refusedElse.applyAsInt(press()) < 0, "the call is done without a jam");
        refused(Bench::jammedPress, done, JAMMED);
        refused(Bench::jammedPress, refusedElse, JAMMED);
    }

    /** press(), then some changes, which have to be done, and at last another margin. */
    static Supplier<FoldPress> after(Call... changes) {
        return () -> {
            FoldPress x = press();
            for (Call change : changes) {
                T.holds(change.applyAsInt(x) >= 0, "a change that the case builds on was not done");
            }
            x.margin(8);
            return x;
        };
    }

    /** All that can be asked of a press, before and after undo(), and what its first station then does. */
    private static String all(FoldPress x) {
        List<Integer> answers = new ArrayList<>();
        counts(x, answers);
        things(x, answers);
        answers.add(x.undo());
        things(x, answers);
        answers.add(x.clear());
        answers.add(x.feed(0));
        answers.add(x.step());
        answers.add(x.state(0, 0));
        answers.add(x.step());
        answers.add(x.state(0, 0));
        answers.add(x.state(0, 2));
        counts(x, answers);
        T.holds(answers.size() + 100 < MOST_CALLS, "more calls than an object is used for");
        return answers.toString();
    }

    /** All that changes can change. */
    static String view(FoldPress x) {
        List<Integer> answers = new ArrayList<>();
        things(x, answers);
        return answers.toString();
    }

    private static void counts(FoldPress x, List<Integer> answers) {
        for (int what = 0; what <= 12; what++) {
            answers.add(x.told(what));
        }
        for (int i = 0; i <= 6; i++) {
            answers.add(x.trace(i));
        }
        answers.add(x.moved());
    }

    private static void things(FoldPress x, List<Integer> answers) {
        answers.add(x.told(5));
        for (int what = 7; what <= 12; what++) {
            answers.add(x.told(what));
        }
        jobs(x, answers);
        folds(x, answers);
        sheets(x, answers);
        signatures(x, answers);
    }

    private static void jobs(FoldPress x, List<Integer> answers) {
        for (int n = 0; n < 9; n++) {
            answers.add(x.about(n / 3, n % 3));
        }
        for (int page = 1; page <= 4; page++) {
            for (int i = -1; i <= 3; i++) {
                answers.add(x.size(0, page, i));
            }
        }
        for (int n = 0; n < 10; n++) {
            answers.add(x.at(0, 1, n / 5, n % 5));
        }
        answers.add(x.size(1, 1, -1));
    }

    private static void folds(FoldPress x, List<Integer> answers) {
        for (int fold = 0; fold <= 7; fold++) {
            answers.add(x.worth(fold, 0));
            answers.add(x.worth(fold, 1));
        }
        answers.add(x.inner(CROSS, 0));
        answers.add(x.inner(CROSS, 1));
    }

    private static void sheets(FoldPress x, List<Integer> answers) {
        for (int n = 0; n < 15; n++) {
            answers.add(x.state(n / 3, n % 3));
        }
        for (int n = 0; n < 16; n++) {
            answers.add(x.cell(n / 8, n / 4 % 2, 0, n / 2 % 2, n % 2));
            answers.add(x.cell(2, n / 8, n / 4 % 2, n / 2 % 2, n % 2));
        }
    }

    private static void signatures(FoldPress x, List<Integer> answers) {
        for (int signature = 0; signature < 3; signature++) {
            answers.add(x.good(signature));
            answers.add(x.creep(signature, HALF, 0));
            answers.add(x.creep(signature, HALF, 1));
        }
        answers.add(x.wrap(HALF, 0));
        answers.add(x.pageAt(HALF, 0));
    }
}
