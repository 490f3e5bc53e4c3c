import java.util.function.ToIntFunction;

/** Promise 49, and what "changes" and "refusals" mean for every call that is one. */
public final class UndoTest {
    private static final int NONE = -2, JAMMED = -4;
    private static final int BLANK = -11, BEYOND = -12, SIZE = -13, COPY = -15;
    private static final int HALF = 1, COLUMNS = 1;

    private static final Due T = new Due();

    /**
     * Two jobs, the first of one page with "AB" and a MISSING row; fold 0 halves columns; sheets 0 to 2, of which
     * sheet 0 is SPOILT and sheet 2 has been gathered; signatures 0 and 1, of which 0 is in the book.
     */
    private static FoldPress press() {
        FoldPress x = new FoldPress();
        x.job(2, 2);
        x.job(3, 3);
        x.page(0);
        x.rows(0, 1, 2);
        x.row(0, 1, 0, 2);
        x.letter(0, 1, 0, 0, 'A');
        x.letter(0, 1, 0, 1, 'B');
        x.fold(HALF, COLUMNS);
        x.sheet(0, 1, 2);
        x.sheet(0, 1, 2);
        x.sheet(1, 2, 2);
        x.put(1, 0, 0, 0, 7, 1);
        x.signature(1);
        x.signature(0);
        x.gather(0, 2);
        x.add(0);
        x.doubled();
        x.feed(0);
        x.step();
        return x;
    }

    /** All that may change, as text; counts are left out, and so is the trace. */
    private static String view(FoldPress x) {
        StringBuilder view = new StringBuilder();
        for (int what = 5; what <= 12; what++) {
            view.append(what == 6 ? 0 : x.told(what)).append(' ');
        }
        for (int job = 0; job < 3; job++) {
            for (int what = 0; what < 3; what++) {
                view.append(x.about(job, what)).append(' ');
            }
            for (int page = 1; page <= 2; page++) {
                view.append(x.size(job, page, -1)).append(' ');
                for (int i = 0; i < 2; i++) {
                    view.append(x.size(job, page, i)).append(' ');
                    for (int k = 0; k < 3; k++) {
                        view.append(x.at(job, page, i, k)).append(' ');
                    }
                }
            }
        }
        for (int sheet = 0; sheet < 4; sheet++) {
            for (int what = 0; what < 3; what++) {
                view.append(x.state(sheet, what)).append(' ');
            }
            for (int n = 0; n < 8; n++) {
                view.append(x.cell(sheet, n / 4, n / 2 % 2, n % 2, 0)).append(' ');
                view.append(x.cell(sheet, n / 4, n / 2 % 2, n % 2, 1)).append(' ');
            }
        }
        for (int signature = 0; signature < 3; signature++) {
            view.append(x.good(signature)).append(' ');
            for (int i = 0; i < 3; i++) {
                view.append(x.creep(signature, 0, i)).append(' ');
            }
        }
        return view.append(x.wrap(0, 0)).append(' ').append(x.worth(1, 0)).append(x.worth(1, 1)).toString();
    }

    private interface Call extends ToIntFunction<FoldPress> { }

    /** Every call that is a change, each so that it is not refused on press(). */
    private static final Call[] CHANGES = {
        x -> x.job(4, 4), x -> x.page(0), x -> x.blank(0, 1), x -> x.rows(0, 1, 1), x -> x.row(0, 1, 0, 1),
        x -> x.miss(0, 1, 0), x -> x.letter(0, 1, 0, 1, 'z'), x -> x.move(0, 1, 0, 1, 0, 1, 1), x -> x.cut(0, 1, 1),
        x -> x.join(0, 0), x -> x.fold(4, 0), x -> x.cross(0, 0), x -> x.sheet(0, 1, 1), x -> x.tear(1, 1, 0),
        x -> x.put(1, 0, 0, 1, 1, 1), x -> x.shift(1, 0, 0, 1, 1, 0, 1, 2), x -> x.lay(1, 0, 1), x -> x.signature(0),
        x -> x.gather(1, 1), x -> x.bind(1, 0, 1), x -> x.add(1), x -> x.cover(1), x -> x.foldBy(1, 0),
        x -> x.margin(8), x -> x.feed(1), x -> x.doubled(), x -> x.jam(3), x -> x.step(), x -> x.reprint(0),
    };

    private static void everyChangeIsTakenBack() {
        for (int n = 0; n < CHANGES.length; n++) {
            FoldPress x = press();
            String before = view(x);
            T.holds(CHANGES[n].applyAsInt(x) >= 0, "change " + n + " was refused");
            T.due(49, x.undo(), 1);
            T.holds(view(x).equals(before), "change " + n + " was not taken back");
            T.due(49, x.undo(), 0);
        }
    }

    private static FoldPress jammedPress() {
        FoldPress x = press();
        x.jam(0);
        x.feed(1);
        x.step();
        T.due(44, x.told(5), 1);
        return x;
    }

    private static void everyChangeIsRefusedWhileJammed() {
        FoldPress x = jammedPress();
        String before = view(x);
        for (Call change : CHANGES) {
            T.due(49, change.applyAsInt(x), JAMMED);
        }
        T.holds(view(x).equals(before), "a change came through while JAMMED");
        T.due(49, x.undo(), JAMMED);
        // JAMMED is ahead of all other refusals.
        T.due(2, x.job(0, 0), JAMMED);
        T.due(4, x.blank(9, 9), JAMMED);
        T.due(15, x.fold(9, 9), JAMMED);
        T.due(43, x.jam(9), JAMMED);
        T.due(45, x.reprint(9), JAMMED);
    }

    private static void questionsAreAnsweredWhileJammed() {
        FoldPress x = jammedPress();
        int found = x.told(0);
        T.due(9, x.at(0, 1, 0, 0), 'A');
        T.due(9, x.at(0, 1, 1, 0), BLANK);
        T.due(21, x.faces(0, 1, 2), 4);
        T.due(28, x.read(1, 0, 0), 0);
        T.due(34, x.creep(0, 0, 9), BEYOND);
        T.due(48, x.good(0), 0);
        T.due(50, x.told(0), found + 2);
        T.due(51, x.trace(0), 2);
    }

    private static void undoOfClear() {
        FoldPress x = jammedPress();
        T.due(46, x.clear(), 1);
        T.due(49, x.undo(), 1);
        T.due(49, x.told(5), 1);
        T.due(49, x.undo(), JAMMED);
        T.due(3, x.page(0), JAMMED);
        T.due(46, x.clear(), 1);
        T.due(3, x.page(0), 2);
        T.due(49, x.undo(), 1);
        T.due(49, x.undo(), 0);
        // A clear() that finds nothing to clear is the latest change all the same.
        T.due(3, x.page(0), 2);
        T.due(46, x.clear(), 0);
        T.due(49, x.undo(), 1);
        T.due(52, x.about(0, 0), 2);
    }

    private static void onlyTheLatest() {
        FoldPress x = press();
        T.due(49, x.undo(), 1);
        T.due(49, x.state(0, 0), 0);
        T.due(49, x.undo(), 0);
        x.page(0);
        x.page(0);
        T.due(49, x.undo(), 1);
        T.due(49, x.about(0, 0), 2);
        T.due(49, x.undo(), 0);
        T.due(49, x.about(0, 0), 2);
    }

    /** A refused call is no change; one that a finding stops is one. */
    private static void refusalsAndFindings() {
        FoldPress x = press();
        x.page(0);
        T.due(3, x.page(9), NONE);
        T.due(2, x.job(9, 9), -1);
        T.due(35, x.add(0), -5);
        x.at(0, 1, 9, 9);
        x.faces(0, 1, 2);
        T.due(49, x.undo(), 1);
        T.due(52, x.about(0, 0), 1);
        x.page(0);
        T.due(5, x.rows(0, 1, -1), SIZE);
        T.due(49, x.undo(), 1);
        T.due(52, x.about(0, 0), 2);
        T.due(49, x.undo(), 0);
        T.due(22, x.sheet(0, -1, 0), SIZE);
        T.due(49, x.undo(), 1);
        T.due(50, x.told(9), 3);
    }

    private static void halfDoneIsTakenBack() {
        FoldPress x = press();
        x.row(0, 1, 1, 1);
        T.due(11, x.move(0, 1, 0, 1, 1, 2, 1), COPY);
        T.due(12, x.moved(), 1);
        T.due(9, x.at(0, 1, 1, 0), 'A');
        T.due(49, x.undo(), 1);
        T.due(9, x.at(0, 1, 1, 0), 32);
        T.due(12, x.moved(), 1);
    }

    private static void countsStay() {
        FoldPress x = press();
        x.reprint(0);
        x.put(0, 0, 0, 0, 1, 0);
        x.foldBy(0, 0);
        T.due(41, x.feed(0), 1);
        x.step();
        T.due(44, x.step(), 1);
        int[] before = new int[7];
        for (int what = 0; what < 7; what++) {
            before[what] = x.told(what);
        }
        T.due(49, before[3], 'A');
        T.due(49, x.undo(), 1);
        T.due(49, x.state(0, 0), 1);
        for (int what = 0; what < 7; what++) {
            T.due(49, x.told(what), before[what]);
        }
        x.lay(0, 0, 1);
        T.due(49, x.undo(), 1);
        T.due(49, x.told(6), before[6] + 1);
        T.due(49, x.trace(0), 2);
    }

    private static void toldThingsAreTakenBack() {
        FoldPress x = press();
        x.reprint(0);
        x.feed(0);
        x.doubled();
        T.due(49, x.undo(), 1);
        T.due(44, x.step(), 1);
        x.jam(1);
        T.due(49, x.undo(), 1);
        T.due(44, x.step(), 1);
        x.feed(1);
        x.doubled();
        // A step that met the DOUBLE: it is told again.
        T.due(44, x.step(), 1);
        T.due(47, x.state(1, 2), 9);
        T.due(49, x.undo(), 1);
        T.due(47, x.state(1, 0), 0);
        T.due(47, x.state(1, 2), 0);
        T.due(44, x.step(), 1);
        T.due(47, x.state(1, 2), 9);
        T.due(50, x.told(4), 3);
    }

    private static void foldToldIsTakenBack() {
        FoldPress x = press();
        x.put(1, 0, 0, 0, 0, 0);
        x.fold(2, 1);
        x.foldBy(1, 0);
        x.foldBy(1, 1);
        T.due(49, x.undo(), 1);
        x.feed(1);
        x.step();
        x.step();
        x.step();
        T.due(44, x.step(), 1);
        T.due(47, x.state(1, 0), 4);
    }

    /** What was gathered or came into the book, and is out of it again, may come again. */
    private static void mayComeAgain() {
        FoldPress x = press();
        T.due(31, x.gather(1, 1), 1);
        x.undo();
        T.due(31, x.gather(1, 1), 1);
        x.undo();
        T.due(31, x.gather(0, 1), 2);
        T.due(34, x.creep(0, 0, 1), 2);
        T.due(35, x.add(1), 2);
        x.undo();
        T.due(35, x.add(1), 2);
        x.reprint(0);
        x.undo();
        T.due(45, x.reprint(0), 1);
        T.due(41, x.feed(0), 1);
        x.undo();
        T.due(41, x.feed(0), 2);
    }

    /** What is made anew in the place of what was undone has nothing of it. */
    private static void madeAnew() {
        FoldPress x = press();
        x.join(0, 0);
        x.undo();
        T.due(3, x.page(0), 2);
        T.due(10, x.size(0, 2, -1), BLANK);
        x.cross(0, 0);
        x.undo();
        T.due(15, x.fold(3, 0), 1);
        T.due(18, x.inner(1, 0), -16);
        T.due(19, x.worth(1, 0), 2);
        T.due(19, x.worth(1, 1), 2);
        T.due(16, x.cross(1, 0), 2);
        T.due(18, x.inner(2, 0), 1);
        T.due(14, x.join(0, 0), 4);
        T.due(9, x.at(0, 3, 0, 0), 'A');
    }

    private static void undoOfManyCells() {
        FoldPress x = new FoldPress();
        x.job(1, 1);
        for (int n = 0; n < 24; n++) {
            x.page(0);
        }
        x.fold(4, 0);
        x.fold(4, 1);
        x.fold(1, 0);
        x.fold(1, 1);
        x.cross(x.cross(0, 1), x.cross(2, 3));
        int fold = x.told(8) - 1;
        x.signature(1);
        for (int sheet = 0; sheet < 4; sheet++) {
            x.sheet(0, 8, 8);
            x.gather(0, sheet);
        }
        T.due(32, x.bind(0, fold, 1), 512);
        T.due(32, x.read(0, fold, 23), 24);
        T.due(32, x.bind(0, fold, 2), 512);
        T.due(32, x.read(0, fold, 22), 24);
        T.due(49, x.undo(), 1);
        for (int k = 0; k < 64; k++) {
            T.due(49, x.read(0, fold, k), k < 24 ? k + 1 : 0);
        }
        T.due(32, x.bind(0, fold, 24), 512);
        x.undo();
        for (int sheet = 1; sheet < 4; sheet++) {
            T.due(49, x.read(sheet, fold, 0), 0);
            T.due(49, x.read(sheet, fold, 127), 0);
        }
        T.due(49, x.read(0, fold, 23), 24);
    }

    /** Every letter and length that a cut took comes back. */
    private static void undoOfCut() {
        FoldPress x = new FoldPress();
        x.job(8, 10);
        x.page(0);
        x.rows(0, 1, 8);
        for (int i = 0; i < 8; i++) {
            x.row(0, 1, i, 10);
            x.letter(0, 1, i, 9, 'a' + i);
        }
        for (int n = 0; n < 3; n++) {
            x.join(0, 0);
        }
        x.cut(0, 3, 4);
        T.due(49, x.undo(), 1);
        T.due(49, x.about(0, 1), 8);
        T.due(49, x.about(0, 2), 10);
        for (int page = 1; page <= 8; page++) {
            for (int i = 0; i < 8; i++) {
                T.due(49, x.at(0, page, i, 9), 'a' + i);
            }
        }
    }

    public static void main(String[] args) {
        everyChangeIsTakenBack();
        everyChangeIsRefusedWhileJammed();
        questionsAreAnsweredWhileJammed();
        undoOfClear();
        onlyTheLatest();
        refusalsAndFindings();
        halfDoneIsTakenBack();
        countsStay();
        toldThingsAreTakenBack();
        foldToldIsTakenBack();
        mayComeAgain();
        madeAnew();
        undoOfManyCells();
        undoOfCut();
        T.end();
    }
}
