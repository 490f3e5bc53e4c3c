import java.util.function.ToIntFunction;

/** Findings: every call that meets one answers it, counts it once, and tells it as the latest. */
public final class FindingsTest {
    private static final int BLANK = 1, BEYOND = 2, SIZE = 3, LARGE = 4, COPY = 5, KIND = 6, UNFIT = 7, OPEN = 8;

    private static final Due T = new Due();

    private interface Call extends ToIntFunction<FoldPress> { }

    private record Meeting(int promise, int finding, Call call) { }

    /**
     * Job 0: page 1 of a row of 2 letters and a MISSING row, page 2 BLANK. Folds: 0 NONE, 1 HALF and 2 THIRD by
     * columns, 3 a cross. Sheet 0 of 2 columns, sheet 1 TORN on both sides; signature 0 has sheet 0, signature 1
     * sheet 1; the book has signature 0 and then 1.
     */
    private static FoldPress press() {
        FoldPress x = new FoldPress();
        x.job(2, 2);
        x.page(0);
        x.page(0);
        x.rows(0, 1, 2);
        x.row(0, 1, 0, 2);
        x.fold(0, 1);
        x.fold(1, 1);
        x.fold(2, 1);
        x.cross(1, 0);
        x.sheet(0, 1, 2);
        x.put(0, 0, 0, 0, 1, 0);
        x.put(0, 0, 0, 1, 2, 0);
        x.sheet(0, 1, 2);
        x.tear(1, 0, 0);
        x.tear(1, 1, 0);
        for (int n = 0; n < 2; n++) {
            x.signature(n);
            x.gather(n, n);
            x.add(n);
        }
        return x;
    }

    private static Meeting meets(int promise, int finding, Call call) {
        return new Meeting(promise, finding, call);
    }

    private static final Meeting[] MEETINGS = {
        meets(5, LARGE, x -> x.rows(0, 1, 9)), meets(5, SIZE, x -> x.rows(0, 1, -1)),
        meets(6, LARGE, x -> x.row(0, 2, 9, 11)), meets(6, SIZE, x -> x.row(0, 2, 9, -1)),
        meets(6, BLANK, x -> x.row(0, 2, 9, 1)), meets(6, BEYOND, x -> x.row(0, 1, 2, 1)),
        meets(7, BLANK, x -> x.miss(0, 2, 0)), meets(7, BEYOND, x -> x.miss(0, 1, 2)),
        meets(8, BLANK, x -> x.letter(0, 2, 0, 0, 65)), meets(8, BEYOND, x -> x.letter(0, 1, 2, 0, 65)),
        meets(8, BLANK, x -> x.letter(0, 1, 1, 0, 65)), meets(8, BEYOND, x -> x.letter(0, 1, 0, 2, 65)),
        meets(9, BLANK, x -> x.at(0, 2, 0, 0)), meets(9, BEYOND, x -> x.at(0, 1, 2, 0)),
        meets(9, BLANK, x -> x.at(0, 1, 1, 0)), meets(9, BEYOND, x -> x.at(0, 1, 0, 2)),
        meets(10, BLANK, x -> x.size(0, 2, -1)), meets(10, BEYOND, x -> x.size(0, 1, 2)),
        meets(10, BLANK, x -> x.size(0, 1, 1)), meets(11, COPY, x -> x.move(0, 1, 0, 1, 1, 1, 1)),
        meets(13, LARGE, x -> x.cut(0, 9, -1)), meets(13, SIZE, x -> x.cut(0, 1, -1)),
        meets(17, KIND, x -> x.lips(1)), meets(18, KIND, x -> x.inner(1, 0)),
        meets(20, LARGE, x -> x.face(1, 9, -1, 0, 0)), meets(20, SIZE, x -> x.face(1, 1, -1, 0, 0)),
        meets(20, UNFIT, x -> x.face(1, 1, 3, 9, 0)), meets(20, OPEN, x -> x.face(1, 1, 4, 9, 0)),
        meets(20, BEYOND, x -> x.face(1, 1, 2, 4, 0)), meets(21, LARGE, x -> x.faces(1, -1, 9)),
        meets(21, SIZE, x -> x.faces(1, -1, 8)), meets(21, UNFIT, x -> x.faces(3, 1, 3)),
        meets(21, OPEN, x -> x.faces(3, 2, 2)), meets(22, LARGE, x -> x.sheet(0, 9, -1)),
        meets(22, SIZE, x -> x.sheet(0, -1, 8)), meets(23, BEYOND, x -> x.tear(0, 0, 1)),
        meets(24, BEYOND, x -> x.put(0, 0, 1, 0, 1, 0)), meets(24, BLANK, x -> x.put(1, 0, 0, 2, 1, 0)),
        meets(24, BEYOND, x -> x.put(0, 0, 0, 2, 1, 0)), meets(25, BEYOND, x -> x.cell(0, 0, 1, 0, 0)),
        meets(25, BLANK, x -> x.cell(1, 0, 0, 2, 0)), meets(25, BEYOND, x -> x.cell(0, 0, 0, 2, 1)),
        meets(26, COPY, x -> x.shift(0, 0, 0, 1, 0, 0, 1, 1)), meets(27, UNFIT, x -> x.lay(0, 2, 1)),
        meets(27, OPEN, x -> x.lay(0, 0, 1)), meets(27, BLANK, x -> x.lay(1, 1, 1)),
        meets(28, UNFIT, x -> x.read(0, 2, 9)), meets(28, OPEN, x -> x.read(0, 0, 9)),
        meets(28, BEYOND, x -> x.read(1, 1, 4)), meets(28, BLANK, x -> x.read(1, 1, 3)),
        meets(29, BEYOND, x -> x.seen(0, 0, 1, 0, 0, 0)), meets(29, BLANK, x -> x.seen(1, 0, 0, 9, 0, 0)),
        meets(29, BEYOND, x -> x.seen(0, 0, 0, 2, 0, 0)), meets(29, BLANK, x -> x.seen(0, 0, 0, 1, 9, 9)),
        meets(29, BLANK, x -> x.seen(0, 1, 0, 0, 9, 9)), meets(29, BEYOND, x -> x.seen(0, 0, 0, 0, 2, 0)),
        meets(29, BLANK, x -> x.seen(0, 0, 0, 0, 1, 9)), meets(29, BEYOND, x -> x.seen(0, 0, 0, 0, 0, 2)),
        meets(32, UNFIT, x -> x.bind(0, 2, 1)), meets(32, OPEN, x -> x.bind(0, 0, 1)),
        meets(32, BLANK, x -> x.bind(1, 3, 1)), meets(33, UNFIT, x -> x.leaf(0, 2, 9, 0)),
        meets(33, OPEN, x -> x.leaf(0, 0, 9, 0)), meets(33, BEYOND, x -> x.leaf(0, 1, 4, 0)),
        meets(34, BEYOND, x -> x.creep(0, 0, 1)), meets(37, UNFIT, x -> x.pageAt(2, 9)),
        meets(37, OPEN, x -> x.pageAt(0, 9)), meets(37, BEYOND, x -> x.pageAt(1, 8)),
        meets(37, BLANK, x -> x.pageAt(1, 4)), meets(38, BLANK, x -> x.wrap(2, 9)),
    };

    /** Of these the cover has to be told first. */
    private static final Meeting[] COVER_MEETINGS = {
        meets(38, UNFIT, x -> x.wrap(2, 9)), meets(38, OPEN, x -> x.wrap(0, 9)),
        meets(38, BEYOND, x -> x.wrap(1, 9)), meets(38, BLANK, x -> x.wrap(1, 0)),
    };

    private static void check(FoldPress x, Meeting meeting) {
        int found = x.told(0);
        T.due(meeting.promise, meeting.call.applyAsInt(x), -10 - meeting.finding);
        T.due(50, x.told(0), found + 1);
        T.due(50, x.told(1), meeting.finding);
    }

    public static void main(String[] args) {
        for (Meeting meeting : MEETINGS) {
            check(press(), meeting);
        }
        for (Meeting meeting : COVER_MEETINGS) {
            FoldPress x = press();
            x.cover(1);
            check(x, meeting);
        }
        T.end();
    }
}
