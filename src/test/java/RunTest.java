/** Promises 39 to 48 and 50: the run through the stations, and what is told of it. */
public final class RunTest {
    private static final int OUTSIDE = -1, NONE = -2, JAMMED = -4, BUSY = -5;
    private static final int BLANK = 1, BEYOND = 2, SIZE = 3, UNFIT = 7, OPEN = 8, DOUBLE = 9, JAM = 10;
    private static final int REST = -1, FEED = 0, PRINT = 1, TURN = 2, FOLD = 3, TRIM = 4, GOOD = 5, SPOILT = 6;
    private static final int HALF = 1, THIRD = 2, GATE = 3, SHUT = 4, COLUMNS = 1;

    private static final Due T = new Due();

    /**
     * A job of 2 lines, 2 wide, with page 1: "AB" "CD", and a BLANK page 2; so many sheets of one row of 2 cells;
     * folds 0 .. 4 by the columns, which are their kinds; fold 1 (HALF) is told for all sheets.
     */
    private static FoldPress press(int sheets) {
        FoldPress x = new FoldPress();
        x.job(2, 2);
        x.page(0);
        x.page(0);
        x.rows(0, 1, 2);
        x.row(0, 1, 0, 2);
        x.row(0, 1, 1, 2);
        for (int n = 0; n < 4; n++) {
            x.letter(0, 1, n / 2, n % 2, 'A' + n);
        }
        for (int kind = 0; kind < 5; kind++) {
            x.fold(kind, COLUMNS);
        }
        for (int n = 0; n < sheets; n++) {
            x.sheet(0, 1, 2);
            x.foldBy(n, HALF);
        }
        return x;
    }

    private static void is(int promise, FoldPress x, int sheet, int place, int number, int finding) {
        T.due(promise, x.state(sheet, 0), place);
        T.due(promise, x.state(sheet, 1), number);
        T.due(promise, x.state(sheet, 2), finding);
    }

    private static void steps(FoldPress x, int times) {
        for (int n = 0; n < times; n++) {
            x.step();
        }
    }

    private static void foldBy() {
        FoldPress x = press(1);
        T.due(39, x.foldBy(1, 0), NONE);
        T.due(39, x.foldBy(-1, 0), NONE);
        T.due(39, x.foldBy(0, 5), NONE);
        T.due(39, x.foldBy(0, -1), NONE);
        T.due(39, x.foldBy(0, THIRD), 1);
        x.feed(0);
        steps(x, 3);
        T.due(39, x.foldBy(0, HALF), 1);
        T.due(39, x.step(), 1);
        // TRIM asks for the fold that is told by then.
        T.due(39, x.margin(2), 3);
        T.due(39, x.foldBy(0, SHUT), 1);
        T.due(39, x.step(), 0);
        is(39, x, 0, SPOILT, 0, SIZE);
    }

    private static void margin() {
        FoldPress x = press(1);
        T.due(40, x.told(12), 3);
        T.due(40, x.margin(-1), OUTSIDE);
        T.due(40, x.margin(10), OUTSIDE);
        T.due(40, x.told(12), 3);
        T.due(40, x.margin(9), 3);
        T.due(40, x.margin(0), 9);
        T.due(40, x.margin(0), 0);
        T.due(40, x.told(12), 0);
        x.feed(0);
        steps(x, 4);
        T.due(40, x.step(), 0);
        is(40, x, 0, SPOILT, 0, SIZE);
    }

    private static void feed() {
        FoldPress x = press(3);
        T.due(41, x.feed(3), NONE);
        T.due(41, x.feed(-1), NONE);
        T.due(41, x.told(4), 0);
        is(41, x, 2, REST, -1, 0);
        T.due(41, x.feed(2), 0);
        is(41, x, 2, FEED, 0, 0);
        T.due(41, x.feed(2), BUSY);
        T.due(41, x.feed(1), BUSY);
        T.due(41, x.told(4), 1);
        T.due(49, x.undo(), 1);
        is(41, x, 2, REST, -1, 0);
        T.due(41, x.told(4), 1);
        T.due(41, x.feed(1), 1);
        x.step();
        T.due(41, x.feed(1), BUSY);
        T.due(41, x.feed(0), 2);
        T.due(41, x.feed(2), BUSY);
        T.due(41, x.told(4), 3);
        steps(x, 5);
        is(41, x, 0, GOOD, 2, 0);
        T.due(41, x.feed(0), BUSY);
        T.due(41, x.feed(2), 3);
    }

    private static void doubled() {
        FoldPress x = press(3);
        x.feed(0);
        x.step();
        T.due(42, x.doubled(), 1);
        T.due(42, x.doubled(), 1);
        T.due(42, x.step(), 1);
        is(42, x, 0, TURN, 0, 0);
        x.feed(1);
        T.due(42, x.step(), 1);
        is(42, x, 1, SPOILT, 1, DOUBLE);
        T.due(42, x.told(1), DOUBLE);
        T.due(42, x.told(0), 1);
        x.feed(2);
        T.due(42, x.step(), 2);
        is(42, x, 2, PRINT, 2, 0);
    }

    private static void jam() {
        FoldPress x = press(3);
        T.due(43, x.jam(-1), OUTSIDE);
        T.due(43, x.jam(5), OUTSIDE);
        T.due(43, x.jam(PRINT), 1);
        T.due(43, x.jam(PRINT), 1);
        T.due(43, x.told(5), 0);
        x.feed(0);
        T.due(43, x.step(), 1);
        T.due(43, x.step(), 0);
        is(43, x, 0, SPOILT, 0, JAM);
        T.due(43, x.told(5), 1);
        T.due(43, x.told(1), JAM);
        T.due(43, x.clear(), 1);
        T.due(43, x.reprint(0), 1);
        T.due(43, x.feed(0), 1);
        T.due(43, x.step(), 1);
        T.due(43, x.step(), 1);
        is(43, x, 0, TURN, 1, 0);
        T.due(43, x.jam(TRIM), 1);
        steps(x, 3);
        is(43, x, 0, SPOILT, 1, JAM);
    }

    private static void stepThroughAll() {
        FoldPress x = press(2);
        x.lay(0, HALF, 1);
        x.put(0, 0, 0, 0, 1, 1);
        x.put(0, 0, 0, 1, 0, 0);
        x.put(0, 1, 0, 0, 1, 0);
        T.due(44, x.step(), 0);
        T.due(44, x.feed(0), 0);
        T.due(44, x.step(), 1);
        is(44, x, 0, PRINT, 0, 0);
        T.due(44, x.told(3), 0);
        T.due(44, x.step(), 1);
        T.due(44, x.told(3), 'D');
        is(44, x, 0, TURN, 0, 0);
        T.due(44, x.feed(1), 1);
        T.due(44, x.step(), 2);
        // The back has page 1 twice: lay() put it on its second cell.
        T.due(44, x.told(3), 'D' + 'A' + 'A');
        T.due(44, x.step(), 2);
        T.due(44, x.trace(0), 2);
        is(44, x, 0, TRIM, 0, 0);
        T.due(44, x.step(), 2);
        is(44, x, 0, GOOD, 0, 0);
        is(44, x, 1, FOLD, 1, 0);
        T.due(44, x.step(), 1);
        T.due(44, x.step(), 1);
        is(44, x, 1, GOOD, 1, 0);
        T.due(44, x.step(), 0);
        T.due(44, x.told(2), 10);
        T.due(44, x.told(0), 0);
    }

    /** The jam is at FOLD: TRIM has worked by then, and the stations below stay as they are. */
    private static void stepEndsWithJam() {
        FoldPress x = press(3);
        for (int sheet = 0; sheet < 3; sheet++) {
            x.feed(sheet);
            x.step();
        }
        x.step();
        is(44, x, 0, TRIM, 0, 0);
        is(44, x, 1, FOLD, 1, 0);
        is(44, x, 2, TURN, 2, 0);
        T.due(44, x.told(2), 9);
        int traced = x.told(6);
        x.jam(FOLD);
        T.due(44, x.step(), 1);
        is(44, x, 0, GOOD, 0, 0);
        is(44, x, 1, SPOILT, 1, JAM);
        is(44, x, 2, TURN, 2, 0);
        T.due(44, x.told(2), 11);
        T.due(44, x.told(0), 1);
        T.due(44, x.told(6), traced);
        T.due(44, x.step(), JAMMED);
        T.due(44, x.told(2), 11);
        T.due(44, x.clear(), 1);
        T.due(44, x.step(), 1);
        is(44, x, 2, FOLD, 2, 0);
    }

    private static void jamAheadOfDouble() {
        FoldPress x = press(2);
        x.doubled();
        x.jam(FEED);
        x.feed(0);
        T.due(44, x.step(), 0);
        is(44, x, 0, SPOILT, 0, JAM);
        x.clear();
        x.feed(1);
        T.due(44, x.step(), 0);
        is(44, x, 1, SPOILT, 1, DOUBLE);
        T.due(44, x.told(0), 2);
    }

    /** Feeds sheet 0 and steps it to a station, where a finding is to spoil it. */
    private static void spoils(FoldPress x, int station, int finding) {
        x.feed(0);
        for (int n = 0; n < station; n++) {
            T.due(44, x.step(), 1);
        }
        T.due(44, x.step(), 0);
        is(44, x, 0, SPOILT, 0, finding);
        T.due(44, x.told(0), 1);
        T.due(44, x.told(1), finding);
        T.due(44, x.told(2), station + 1);
        T.due(44, x.told(5), 0);
        T.due(44, x.step(), 0);
    }

    private static void spoiltAtPrint() {
        FoldPress x = press(1);
        x.put(0, 0, 0, 1, 2, 0);
        spoils(x, PRINT, BLANK);
        x = press(1);
        x.put(0, 0, 0, 1, 3, 0);
        spoils(x, PRINT, BLANK);
        x = press(1);
        x.put(0, 0, 0, 0, 1, 0);
        x.put(0, 0, 0, 1, 1, 1);
        x.row(0, 1, 1, 1);
        spoils(x, PRINT, BEYOND);
        T.due(44, x.told(3), 'A');
        x = press(1);
        x.put(0, 0, 0, 1, 1, 0);
        x.miss(0, 1, 0);
        spoils(x, PRINT, BLANK);
        x = press(1);
        x.put(0, 0, 0, 1, 1, 0);
        x.rows(0, 1, 0);
        spoils(x, PRINT, BEYOND);
        x = press(1);
        x.tear(0, 0, 0);
        spoils(x, PRINT, BLANK);
    }

    private static void spoiltAtTurn() {
        FoldPress x = press(1);
        x.put(0, 1, 0, 0, 2, 0);
        spoils(x, TURN, BLANK);
        x = press(1);
        x.tear(0, 1, 0);
        spoils(x, TURN, BLANK);
    }

    private static void inkIsRowByRow() {
        FoldPress x = press(0);
        x.sheet(0, 2, 2);
        x.put(0, 0, 0, 0, 1, 0);
        x.put(0, 0, 0, 1, 1, 1);
        x.put(0, 0, 1, 0, 1, 0);
        x.tear(0, 0, 1);
        spoils(x, PRINT, BLANK);
        T.due(44, x.told(3), 'A' + 'D');
        x = press(0);
        x.sheet(0, 2, 0);
        x.tear(0, 1, 1);
        spoils(x, TURN, BLANK);
    }

    /** PRINT looks at the front alone, to its last row. */
    private static void sidesAreApart() {
        FoldPress x = press(0);
        x.sheet(0, 8, 8);
        x.tear(0, 1, 0);
        x.put(0, 0, 7, 7, 1, 0);
        spoils(x, TURN, BLANK);
        T.due(44, x.told(3), 'A');
        x = press(0);
        x.sheet(0, 8, 8);
        x.tear(0, 0, 7);
        spoils(x, PRINT, BLANK);
    }

    private static void spoiltAtFold() {
        FoldPress x = press(0);
        x.sheet(0, 1, 2);
        spoils(x, FOLD, BLANK);
        T.due(44, x.told(6), 0);
        x = press(1);
        x.foldBy(0, THIRD);
        spoils(x, FOLD, UNFIT);
        T.due(44, x.told(6), 1);
        x = press(1);
        x.foldBy(0, 0);
        spoils(x, FOLD, OPEN);
        x = press(0);
        x.sheet(0, 1, 0);
        x.foldBy(0, HALF);
        spoils(x, FOLD, OPEN);
    }

    private static void spoiltAtTrim() {
        FoldPress x = press(0);
        x.sheet(0, 1, 4);
        x.foldBy(0, SHUT);
        x.margin(2);
        spoils(x, TRIM, SIZE);
        x = press(0);
        x.sheet(0, 1, 4);
        x.foldBy(0, SHUT);
        x.feed(0);
        steps(x, 4);
        T.due(44, x.step(), 1);
        is(44, x, 0, GOOD, 0, 0);
    }

    private static void reprint() {
        FoldPress x = press(2);
        T.due(45, x.reprint(2), NONE);
        T.due(45, x.reprint(-1), NONE);
        T.due(45, x.reprint(0), BUSY);
        x.feed(0);
        T.due(45, x.reprint(0), BUSY);
        x.doubled();
        x.step();
        is(45, x, 0, SPOILT, 0, DOUBLE);
        T.due(45, x.feed(0), BUSY);
        T.due(45, x.reprint(0), 1);
        is(45, x, 0, REST, 0, 0);
        T.due(45, x.reprint(0), BUSY);
        T.due(45, x.feed(0), 1);
        steps(x, 5);
        is(45, x, 0, GOOD, 1, 0);
        T.due(45, x.reprint(0), BUSY);
        T.due(45, x.told(1), DOUBLE);
    }

    private static void clear() {
        FoldPress x = press(1);
        T.due(46, x.clear(), 0);
        x.jam(FEED);
        x.feed(0);
        x.step();
        T.due(46, x.told(5), 1);
        T.due(46, x.clear(), 1);
        T.due(46, x.told(5), 0);
        T.due(46, x.clear(), 0);
        T.due(46, x.step(), 0);
    }

    private static void state() {
        FoldPress x = press(1);
        T.due(47, x.state(1, 9), NONE);
        T.due(47, x.state(-1, 0), NONE);
        T.due(47, x.state(0, 3), OUTSIDE);
        T.due(47, x.state(0, -1), OUTSIDE);
        is(47, x, 0, REST, -1, 0);
        x.feed(0);
        for (int station = FEED; station <= TRIM; station++) {
            is(47, x, 0, station, 0, 0);
            x.step();
        }
        is(47, x, 0, GOOD, 0, 0);
    }

    private static void good() {
        FoldPress x = press(3);
        T.due(48, x.good(0), NONE);
        x.signature(0);
        T.due(48, x.good(0), 0);
        T.due(48, x.good(1), NONE);
        T.due(48, x.good(-1), NONE);
        x.gather(0, 2);
        x.gather(0, 0);
        x.gather(0, 1);
        x.feed(0);
        steps(x, 5);
        T.due(48, x.good(0), 0);
        x.feed(2);
        steps(x, 4);
        T.due(48, x.good(0), 0);
        x.step();
        T.due(48, x.good(0), 2);
        x.feed(1);
        steps(x, 5);
        T.due(48, x.good(0), 3);
    }

    private static void told() {
        FoldPress x = press(2);
        T.due(50, x.told(-1), OUTSIDE);
        T.due(50, x.told(13), OUTSIDE);
        x.signature(0);
        x.signature(1);
        x.add(1);
        x.margin(7);
        x.put(0, 0, 0, 0, 1, 0);
        x.feed(0);
        steps(x, 4);
        x.at(0, 2, 0, 0);
        x.at(0, 1, 5, 0);
        int[] due = {2, BEYOND, 4, 'A', 1, 0, 1, 1, 5, 2, 2, 1, 7};
        for (int what = 0; what < due.length; what++) {
            T.due(50, x.told(what), due[what]);
        }
        x.jam(TRIM);
        x.step();
        T.due(50, x.told(5), 1);
        T.due(50, x.told(0), 3);
        T.due(50, x.told(1), JAM);
        T.due(50, x.told(2), 5);
    }

    /** A GATE leaves two piles, so it spoils a sheet that it fits. */
    private static void gateStaysOpen() {
        FoldPress x = press(0);
        x.sheet(0, 1, 4);
        x.foldBy(0, GATE);
        spoils(x, FOLD, OPEN);
        T.due(44, x.trace(0), 4);
    }

    public static void main(String[] args) {
        foldBy();
        margin();
        feed();
        doubled();
        jam();
        stepThroughAll();
        stepEndsWithJam();
        jamAheadOfDouble();
        spoiltAtPrint();
        spoiltAtTurn();
        inkIsRowByRow();
        sidesAreApart();
        spoiltAtFold();
        spoiltAtTrim();
        gateStaysOpen();
        reprint();
        clear();
        state();
        good();
        told();
        T.end();
    }
}
