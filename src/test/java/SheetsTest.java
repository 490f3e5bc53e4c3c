/** Promises 22 to 29: sheets. */
public final class SheetsTest {
    private static final int OUTSIDE = -1, NONE = -2, FULL = -3;
    private static final int BLANK = -11, BEYOND = -12, SIZE = -13, LARGE = -14, COPY = -15, UNFIT = -17, OPEN = -18;
    private static final int LOWEST = Integer.MIN_VALUE, HIGHEST = Integer.MAX_VALUE;
    private static final int HALF = 1, ROWS = 0, COLUMNS = 1;

    private static final Due T = new Due();

    /** A job of 2 lines, 3 wide, with so many BLANK pages, and a sheet of it. */
    private static FoldPress sheetOf(int pages, int rows, int columns) {
        FoldPress x = new FoldPress();
        x.job(2, 3);
        for (int n = 0; n < pages; n++) {
            x.page(0);
        }
        T.due(22, x.sheet(0, rows, columns), 0);
        return x;
    }

    /** A cell's page, and its UP. */
    private static void has(int promise, FoldPress x, int sheet, int side, int row, int column, int... pageAndUp) {
        T.due(promise, x.cell(sheet, side, row, column, 0), pageAndUp[0]);
        T.due(promise, x.cell(sheet, side, row, column, 1), pageAndUp[1]);
    }

    private static void sheet() {
        FoldPress x = new FoldPress();
        T.due(22, x.sheet(0, 1, 1), NONE);
        x.job(2, 3);
        T.due(22, x.sheet(1, 9, 9), NONE);
        T.due(22, x.sheet(-1, 1, 1), NONE);
        T.due(22, x.sheet(0, 9, 1), LARGE);
        T.due(22, x.sheet(0, 1, 9), LARGE);
        T.due(22, x.sheet(0, -1, HIGHEST), LARGE);
        T.due(22, x.sheet(0, -1, 1), SIZE);
        T.due(22, x.sheet(0, 1, LOWEST), SIZE);
        T.due(22, x.told(9), 0);
        T.due(22, x.told(0), 5);
        T.due(22, x.sheet(0, 8, 8), 0);
        T.due(22, x.sheet(0, 0, 0), 1);
        for (int n = 2; n < 8; n++) {
            T.due(22, x.sheet(0, n, 1), n);
        }
        T.due(22, x.sheet(0, 9, 1), FULL);
        T.due(22, x.sheet(0, -1, 1), FULL);
        T.due(22, x.sheet(1, 1, 1), NONE);
        T.due(22, x.told(9), 8);
        T.due(22, x.told(0), 5);
        has(22, x, 0, 0, 7, 7, 0, 0);
        has(22, x, 0, 1, 7, 7, 0, 0);
        T.due(22, x.cell(0, 0, 8, 0, 0), BEYOND);
        T.due(22, x.cell(0, 0, 0, 8, 0), BEYOND);
        T.due(22, x.cell(1, 0, 0, 0, 0), BEYOND);
        T.due(22, x.state(0, 0), -1);
        T.due(22, x.state(0, 1), -1);
        T.due(22, x.state(0, 2), 0);
    }

    private static void tear() {
        FoldPress x = sheetOf(0, 2, 2);
        T.due(23, x.tear(1, 9, 9), NONE);
        T.due(23, x.tear(0, 2, 9), OUTSIDE);
        T.due(23, x.tear(0, -1, 0), OUTSIDE);
        T.due(23, x.tear(0, 0, 2), BEYOND);
        T.due(23, x.tear(0, 0, -1), BEYOND);
        T.due(23, x.tear(0, 1, HIGHEST), BEYOND);
        T.due(23, x.tear(0, 1, 0), 1);
        T.due(23, x.cell(0, 1, 0, 0, 0), BLANK);
        T.due(23, x.cell(0, 1, 1, 0, 0), 0);
        T.due(23, x.cell(0, 0, 0, 0, 0), 0);
        T.due(23, x.tear(0, 1, 0), 1);
        T.due(23, x.sheet(0, 2, 0), 1);
        T.due(23, x.tear(1, 0, 1), 1);
        T.due(23, x.cell(1, 0, 1, 0, 0), BLANK);
        T.due(23, x.cell(1, 0, 0, 0, 0), BEYOND);
    }

    private static void put() {
        FoldPress x = sheetOf(0, 2, 3);
        x.tear(0, 0, 1);
        T.due(24, x.put(1, 2, 0, 0, 25, 2), NONE);
        T.due(24, x.put(0, 2, 0, 0, 1, 0), OUTSIDE);
        T.due(24, x.put(0, -1, 0, 0, 1, 0), OUTSIDE);
        T.due(24, x.put(0, 0, 9, 9, 25, 0), OUTSIDE);
        T.due(24, x.put(0, 0, 0, 0, -1, 0), OUTSIDE);
        T.due(24, x.put(0, 0, 0, 0, 1, 2), OUTSIDE);
        T.due(24, x.put(0, 0, 0, 0, 1, -1), OUTSIDE);
        T.due(24, x.told(0), 0);
        T.due(24, x.put(0, 0, 2, 9, 1, 0), BEYOND);
        T.due(24, x.put(0, 0, -1, 0, 1, 0), BEYOND);
        T.due(24, x.put(0, 0, 1, 9, 1, 0), BLANK);
        T.due(24, x.put(0, 0, 0, 3, 1, 0), BEYOND);
        T.due(24, x.put(0, 1, 0, LOWEST, 1, 0), BEYOND);
        T.due(24, x.put(0, 1, 1, 2, 24, 1), 1);
        T.due(24, x.put(0, 0, 0, 0, 7, 0), 1);
        has(24, x, 0, 1, 1, 2, 24, 1);
        has(24, x, 0, 0, 0, 0, 7, 0);
        has(24, x, 0, 1, 0, 0, 0, 0);
        T.due(24, x.put(0, 1, 1, 2, 0, 1), 1);
        has(24, x, 0, 1, 1, 2, 0, 1);
    }

    private static void cell() {
        FoldPress x = sheetOf(0, 1, 2);
        x.put(0, 1, 0, 1, 5, 1);
        T.due(25, x.cell(1, 2, 0, 0, 0), NONE);
        T.due(25, x.cell(-1, 0, 0, 0, 0), NONE);
        T.due(25, x.cell(0, 2, 9, 0, 0), OUTSIDE);
        T.due(25, x.cell(0, -1, 0, 0, 0), OUTSIDE);
        T.due(25, x.cell(0, 0, 9, 0, 2), OUTSIDE);
        T.due(25, x.cell(0, 0, 0, 0, -1), OUTSIDE);
        T.due(25, x.cell(0, 0, 1, 0, 0), BEYOND);
        T.due(25, x.cell(0, 0, -1, 0, 1), BEYOND);
        T.due(25, x.cell(0, 0, 0, 2, 0), BEYOND);
        T.due(25, x.cell(0, 0, 0, -1, 0), BEYOND);
        has(25, x, 0, 1, 0, 1, 5, 1);
        x.tear(0, 1, 0);
        T.due(25, x.cell(0, 1, 0, 9, 0), BLANK);
        T.due(25, x.told(0), 5);
    }

    private static void shift() {
        FoldPress x = sheetOf(0, 3, 3);
        x.sheet(0, 2, 2);
        for (int row = 0; row < 3; row++) {
            for (int column = 0; column < 3; column++) {
                x.put(0, 0, row, column, 1 + 3 * row + column, column % 2);
            }
        }
        T.due(26, x.shift(2, 2, 0, 0, 0, 0, 1, 1), NONE);
        T.due(26, x.shift(0, 0, 0, 2, 2, 0, 1, 1), NONE);
        T.due(26, x.shift(0, 2, 0, 1, 0, 0, 1, 1), OUTSIDE);
        T.due(26, x.shift(0, 0, 0, 1, -1, 0, 1, 1), OUTSIDE);
        T.due(26, x.shift(0, 0, 0, 1, 0, 0, 9, 1), OUTSIDE);
        T.due(26, x.shift(0, 0, 0, 1, 0, 0, -1, 1), OUTSIDE);
        T.due(26, x.told(0), 0);
        T.due(26, x.shift(0, 0, 1, 1, 1, 0, 2, 2), 1);
        T.due(12, x.moved(), 2);
        has(26, x, 1, 1, 0, 0, 4, 0);
        has(26, x, 1, 1, 0, 1, 5, 1);
        has(26, x, 1, 1, 1, 0, 7, 0);
        has(26, x, 1, 1, 1, 1, 8, 1);
        has(26, x, 1, 0, 0, 0, 0, 0);
        // The third target row is none.
        T.due(26, x.shift(0, 0, 0, 1, 0, 0, 3, 1), COPY);
        T.due(12, x.moved(), 2);
        has(26, x, 1, 0, 0, 0, 1, 0);
        has(26, x, 1, 0, 1, 0, 4, 0);
        has(26, x, 1, 0, 1, 1, 0, 0);
        T.due(26, x.shift(0, 0, 0, 1, 0, 0, 1, 3), COPY);
        T.due(26, x.shift(1, 0, 0, 0, 0, 0, 1, 3), COPY);
        T.due(26, x.shift(0, 0, 0, 1, 0, 0, 1, -1), COPY);
        T.due(26, x.shift(0, 0, 3, 1, 0, 0, 1, 0), COPY);
        T.due(26, x.shift(0, 0, LOWEST, 1, 0, HIGHEST, 8, 0), COPY);
        T.due(12, x.moved(), 0);
        T.due(26, x.told(1), 5);
        T.due(26, x.shift(0, 0, -9, 1, 0, 99, 0, -1), 1);
        x.tear(1, 0, 1);
        T.due(26, x.shift(0, 0, 0, 1, 0, 0, 2, 0), COPY);
        T.due(12, x.moved(), 1);
        T.due(26, x.shift(1, 0, 1, 0, 0, 0, 1, 0), COPY);
        T.due(12, x.moved(), 0);
        T.due(26, x.shift(0, 0, 0, 0, 0, 0, 1, 3), 1);
        has(26, x, 0, 0, 0, 2, 3, 0);
        // Row 0 comes to row 1, and that goes on to row 2.
        T.due(26, x.shift(0, 0, 0, 0, 0, 1, 2, 2), 1);
        has(26, x, 0, 0, 2, 0, 1, 0);
        has(26, x, 0, 0, 2, 1, 2, 1);
        has(26, x, 0, 0, 2, 2, 9, 0);
    }

    private static void lay() {
        FoldPress x = sheetOf(6, 2, 2);
        int half = x.fold(HALF, COLUMNS);
        int both = x.cross(half, x.fold(HALF, ROWS));
        T.due(27, x.lay(1, both, 0), NONE);
        T.due(27, x.lay(0, 3, 0), NONE);
        T.due(27, x.lay(0, both, 0), OUTSIDE);
        T.due(27, x.lay(0, both, 25), OUTSIDE);
        T.due(27, x.told(6), 0);
        T.due(27, x.lay(0, half, 1), OPEN);
        x.sheet(0, 2, 3);
        T.due(27, x.lay(1, half, 1), UNFIT);
        T.due(27, x.lay(0, both, 1), 8);
        has(27, x, 0, 1, 1, 0, 1, 1);
        has(27, x, 0, 0, 1, 0, 2, 1);
        has(27, x, 0, 0, 1, 1, 3, 1);
        has(27, x, 0, 1, 1, 1, 4, 1);
        has(27, x, 0, 1, 0, 1, 5, 0);
        has(27, x, 0, 0, 0, 1, 6, 0);
        // The job has no pages 7 and 8.
        has(27, x, 0, 0, 0, 0, 0, 0);
        has(27, x, 0, 1, 0, 0, 0, 0);
        x.put(0, 0, 0, 0, 9, 1);
        T.due(27, x.lay(0, both, 6), 8);
        has(27, x, 0, 1, 1, 0, 6, 1);
        has(27, x, 0, 0, 1, 0, 0, 1);
        has(27, x, 0, 0, 0, 0, 0, 0);
        T.due(27, x.lay(0, both, 24), 8);
        has(27, x, 0, 1, 1, 0, 0, 1);
    }

    private static void layOnTorn() {
        FoldPress x = sheetOf(6, 2, 2);
        int both = x.cross(x.fold(HALF, COLUMNS), x.fold(HALF, ROWS));
        x.tear(0, 1, 0);
        // Faces 0 to 3 are in row 1; face 4 is on the back of row 0.
        T.due(27, x.lay(0, both, 1), BLANK);
        has(27, x, 0, 1, 1, 1, 4, 1);
        has(27, x, 0, 0, 0, 1, 0, 0);
        T.due(27, x.told(0), 1);
        T.due(49, x.undo(), 1);
        has(27, x, 0, 1, 1, 1, 0, 0);
    }

    private static void read() {
        FoldPress x = sheetOf(6, 1, 2);
        int half = x.fold(HALF, COLUMNS);
        int halfRows = x.fold(HALF, ROWS);
        int flat = x.fold(0, ROWS);
        x.lay(0, half, 2);
        T.due(28, x.read(1, half, 0), NONE);
        T.due(28, x.read(0, 3, 99), NONE);
        T.due(28, x.read(0, halfRows, 99), UNFIT);
        T.due(28, x.read(0, flat, 99), OPEN);
        T.due(28, x.read(0, half, 4), BEYOND);
        T.due(28, x.read(0, half, -1), BEYOND);
        for (int k = 0; k < 4; k++) {
            T.due(28, x.read(0, half, k), 2 + k);
        }
        x.put(0, 1, 0, 1, 24, 0);
        T.due(28, x.read(0, half, 0), 24);
        x.tear(0, 1, 0);
        T.due(28, x.read(0, half, 0), BLANK);
        T.due(28, x.read(0, half, 1), 3);
        T.due(28, x.read(0, half, 99), BEYOND);
        T.due(28, x.told(0), 6);
        T.due(28, x.told(6), 13);
    }

    private static void seen() {
        FoldPress x = sheetOf(3, 1, 4);
        x.rows(0, 1, 2);
        x.row(0, 1, 0, 3);
        x.row(0, 1, 1, 3);
        for (int n = 0; n < 6; n++) {
            x.letter(0, 1, n / 3, n % 3, 'A' + n);
        }
        x.put(0, 0, 0, 0, 1, 0);
        x.put(0, 0, 0, 1, 1, 1);
        x.put(0, 0, 0, 2, 2, 0);
        x.put(0, 1, 0, 0, 4, 0);
        T.due(29, x.seen(1, 2, 0, 0, 0, 0), NONE);
        T.due(29, x.seen(0, 2, 9, 0, 0, 0), OUTSIDE);
        T.due(29, x.seen(0, -1, 0, 0, 0, 0), OUTSIDE);
        T.due(29, x.seen(0, 0, 1, 0, 0, 0), BEYOND);
        T.due(29, x.seen(0, 0, 0, 4, 0, 0), BEYOND);
        for (int n = 0; n < 6; n++) {
            T.due(29, x.seen(0, 0, 0, 0, n / 3, n % 3), 'A' + n);
            T.due(29, x.seen(0, 0, 0, 1, n / 3, n % 3), 'F' - n);
        }
        T.due(29, x.seen(0, 0, 0, 2, 9, 9), BLANK);
        T.due(29, x.seen(0, 0, 0, 3, 9, 9), BLANK);
        T.due(29, x.seen(0, 1, 0, 0, 9, 9), BLANK);
        for (int column = 0; column < 2; column++) {
            T.due(29, x.seen(0, 0, 0, column, 2, 9), BEYOND);
            T.due(29, x.seen(0, 0, 0, column, -1, 0), BEYOND);
            T.due(29, x.seen(0, 0, 0, column, 0, 3), BEYOND);
            T.due(29, x.seen(0, 0, 0, column, 0, -1), BEYOND);
            T.due(29, x.seen(0, 0, 0, column, LOWEST, LOWEST), BEYOND);
            T.due(29, x.seen(0, 0, 0, column, HIGHEST, 0), BEYOND);
        }
        x.miss(0, 1, 1);
        T.due(29, x.seen(0, 0, 0, 0, 1, 9), BLANK);
        T.due(29, x.seen(0, 0, 0, 1, 0, 9), BLANK);
        T.due(29, x.seen(0, 0, 0, 1, 1, 0), 'C');
        x.tear(0, 0, 0);
        T.due(29, x.seen(0, 0, 0, 9, 0, 0), BLANK);
    }

    /** The other way up is counted from the format, whatever rows the page has. */
    private static void seenByFormat() {
        FoldPress x = sheetOf(1, 1, 1);
        x.rows(0, 1, 4);
        x.row(0, 1, 3, 5);
        x.letter(0, 1, 3, 4, 'z');
        x.put(0, 0, 0, 0, 1, 1);
        T.due(29, x.seen(0, 0, 0, 0, -2, -2), 'z');
        T.due(29, x.seen(0, 0, 0, 0, 0, 0), BLANK);
        x.cut(0, 8, 10);
        T.due(29, x.seen(0, 0, 0, 0, 4, 5), 'z');
        T.due(29, x.seen(0, 0, 0, 0, 0, 0), BEYOND);
        x.cut(0, 0, 0);
        T.due(29, x.seen(0, 0, 0, 0, 0, 0), BEYOND);
    }

    public static void main(String[] args) {
        sheet();
        tear();
        put();
        cell();
        shift();
        lay();
        layOnTorn();
        read();
        seen();
        seenByFormat();
        T.end();
    }
}
