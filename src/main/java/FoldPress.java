/** A press: jobs of pages, sheets, folds, signatures, a book, and a run through five stations. */
public final class FoldPress {
    public static final int OUTSIDE = -1, NONE = -2, FULL = -3, JAMMED = -4, BUSY = -5;

    // FINDINGS, each as the answer of the call that meets it; the lowest refusal lies above them all.
    private static final int BLANK = -11, BEYOND = -12, SIZE = -13, LARGE = -14, COPY = -15;
    private static final int KIND = -16, UNFIT = -17, OPEN = -18, DOUBLE = -19, JAM = -20;
    private static final int DONE = 1;

    private static final int MOST_JOBS = 3, MOST_PAGES = 24, MOST_LINES = 8, MOST_WIDTH = 10;
    private static final int MOST_FOLDS = 16, MOST_PLAIN_FOLDS = 8;
    private static final int MOST_SHEETS = 8, GRID = 8, LEAVES = GRID * GRID, SIDES = 2, FACES = SIDES * LEAVES;
    private static final int MOST_SIGNATURES = 4, MOST_GATHERED = 4;
    private static final int MOST_MARGIN = 9, MOST_TOLD = 12;
    private static final int LOWEST_LETTER = 32, HIGHEST_LETTER = 126;

    private static final int FLAT = 0, HALF = 1, THIRD = 2, GATE = 3, SHUT = 4, CROSS = 5;
    private static final int BY_ROWS = 0, BY_COLUMNS = 1;
    private static final int BEHIND = 0, INSIDE = 1;
    private static final int FEED = 0, PRINT = 1, TURN = 2, FOLD = 3, TRIM = 4;
    private static final int REST = -1, GOOD = 5, SPOILT = 6;

    private final Journal journal;
    private final Tally tally;
    private final Jobs jobs;
    private final Folds folds;
    private final Sheets sheets;
    private final Book book;
    private final Press press;

    public FoldPress() {
        journal = new Journal();
        tally = new Tally();
        jobs = new Jobs(journal);
        folds = new Folds(journal, tally);
        sheets = new Sheets(journal, jobs, folds);
        book = new Book(journal, folds, sheets);
        press = new Press(journal, tally, folds, sheets);
    }

    // ---- jobs and pages

    public int job(int lines, int width) {
        if (press.isJammed()) {
            return JAMMED;
        }
        if (!within(lines, 1, MOST_LINES) || !within(width, 1, MOST_WIDTH)) {
            return OUTSIDE;
        }
        if (jobs.count() >= MOST_JOBS) {
            return FULL;
        }
        journal.begin();
        return jobs.make(lines, width);
    }

    public int page(int job) {
        if (press.isJammed()) {
            return JAMMED;
        }
        if (!jobs.has(job)) {
            return NONE;
        }
        if (jobs.pagesOf(job) >= MOST_PAGES) {
            return FULL;
        }
        journal.begin();
        return jobs.makePage(job);
    }

    public int blank(int job, int page) {
        if (press.isJammed()) {
            return JAMMED;
        }
        if (!jobs.hasPage(job, page)) {
            return NONE;
        }
        journal.begin();
        return jobs.makeBlank(jobs.spotOf(job, page));
    }

    public int rows(int job, int page, int n) {
        if (press.isJammed()) {
            return JAMMED;
        }
        if (!jobs.hasPage(job, page)) {
            return NONE;
        }
        journal.begin();
        return tally.answer(jobs.makeRows(jobs.spotOf(job, page), n));
    }

    public int row(int job, int page, int i, int n) {
        if (press.isJammed()) {
            return JAMMED;
        }
        if (!jobs.hasPage(job, page)) {
            return NONE;
        }
        journal.begin();
        return tally.answer(jobs.makeRow(jobs.spotOf(job, page), i, n));
    }

    public int miss(int job, int page, int i) {
        if (press.isJammed()) {
            return JAMMED;
        }
        if (!jobs.hasPage(job, page)) {
            return NONE;
        }
        journal.begin();
        return tally.answer(jobs.makeMissing(jobs.spotOf(job, page), i));
    }

    public int letter(int job, int page, int i, int k, int c) {
        if (press.isJammed()) {
            return JAMMED;
        }
        if (!jobs.hasPage(job, page)) {
            return NONE;
        }
        if (!within(c, LOWEST_LETTER, HIGHEST_LETTER)) {
            return OUTSIDE;
        }
        journal.begin();
        return tally.answer(jobs.writeLetter(jobs.spotOf(job, page), i, k, c));
    }

    public int at(int job, int page, int i, int k) {
        if (!jobs.hasPage(job, page)) {
            return NONE;
        }
        return tally.answer(jobs.letterAt(jobs.spotOf(job, page), i, k));
    }

    public int size(int job, int page, int i) {
        if (!jobs.hasPage(job, page)) {
            return NONE;
        }
        int spot = jobs.spotOf(job, page);
        return tally.answer(i == -1 ? jobs.rowsOf(spot) : jobs.lettersOf(spot, i));
    }

    public int move(int job, int from, int i, int to, int j, int rows, int letters) {
        if (press.isJammed()) {
            return JAMMED;
        }
        if (!jobs.hasPage(job, from) || !jobs.hasPage(job, to)) {
            return NONE;
        }
        if (!within(rows, 0, MOST_LINES)) {
            return OUTSIDE;
        }
        journal.begin();
        tally.beginMove();
        for (int n = 0; n < rows; n++) {
            if (!jobs.copyRow(jobs.spotOf(job, from), i + n, jobs.spotOf(job, to), j + n, letters)) {
                return tally.answer(COPY);
            }
            tally.countMovedRow();
        }
        return DONE;
    }

    public int moved() {
        return tally.movedRows();
    }

    public int cut(int job, int lines, int width) {
        if (press.isJammed()) {
            return JAMMED;
        }
        if (!jobs.has(job)) {
            return NONE;
        }
        journal.begin();
        return tally.answer(jobs.trimTo(job, lines, width));
    }

    public int join(int a, int b) {
        if (press.isJammed()) {
            return JAMMED;
        }
        if (!jobs.has(a) || !jobs.has(b)) {
            return NONE;
        }
        if (jobs.pagesOf(a) + jobs.pagesOf(b) > MOST_PAGES) {
            return FULL;
        }
        journal.begin();
        return jobs.append(a, b);
    }

    // ---- folds

    public int fold(int kind, int axis) {
        if (press.isJammed()) {
            return JAMMED;
        }
        if (!within(kind, FLAT, SHUT) || !within(axis, BY_ROWS, BY_COLUMNS)) {
            return OUTSIDE;
        }
        if (folds.count() >= MOST_FOLDS) {
            return FULL;
        }
        journal.begin();
        return folds.makePlain(kind, axis);
    }

    public int cross(int first, int second) {
        if (press.isJammed()) {
            return JAMMED;
        }
        if (!folds.has(first) || !folds.has(second)) {
            return NONE;
        }
        if (folds.count() >= MOST_FOLDS || folds.plainOf(first) + folds.plainOf(second) > MOST_PLAIN_FOLDS) {
            return FULL;
        }
        journal.begin();
        return folds.makeCross(first, second);
    }

    public int lips(int fold) {
        if (!folds.has(fold)) {
            return NONE;
        }
        return tally.answer(folds.lipsOf(fold));
    }

    public int inner(int fold, int which) {
        if (!folds.has(fold)) {
            return NONE;
        }
        if (!within(which, 0, 1)) {
            return OUTSIDE;
        }
        return tally.answer(folds.partOf(fold, which));
    }

    public int worth(int fold, int what) {
        if (!folds.has(fold)) {
            return NONE;
        }
        if (!within(what, 0, 1)) {
            return OUTSIDE;
        }
        return what == 0 ? folds.thickOf(fold) : folds.trimOf(fold);
    }

    public int face(int fold, int rows, int columns, int k, int what) {
        if (!folds.has(fold)) {
            return NONE;
        }
        if (!within(what, 0, 3)) {
            return OUTSIDE;
        }
        int count = foldBare(fold, rows, columns);
        if (count < 0) {
            return tally.answer(count);
        }
        return k < 0 || k >= count ? tally.answer(BEYOND) : folds.faceOf(0, k, what);
    }

    public int faces(int fold, int rows, int columns) {
        if (!folds.has(fold)) {
            return NONE;
        }
        return tally.answer(foldBare(fold, rows, columns));
    }

    /** Folds a grid that is no sheet's; it may use sheet 0's place, since no folded sheet outlives its call. */
    private int foldBare(int fold, int rows, int columns) {
        int fault = gridFault(rows, columns);
        return fault < 0 ? fault : folds.foldGrid(fold, rows, columns, 0);
    }

    private static int gridFault(int rows, int columns) {
        if (rows > GRID || columns > GRID) {
            return LARGE;
        }
        return rows < 0 || columns < 0 ? SIZE : DONE;
    }

    // ---- sheets

    public int sheet(int job, int rows, int columns) {
        if (press.isJammed()) {
            return JAMMED;
        }
        if (!jobs.has(job)) {
            return NONE;
        }
        if (sheets.count() >= MOST_SHEETS) {
            return FULL;
        }
        journal.begin();
        int fault = gridFault(rows, columns);
        return fault < 0 ? tally.answer(fault) : sheets.make(job, rows, columns);
    }

    public int tear(int sheet, int side, int row) {
        if (press.isJammed()) {
            return JAMMED;
        }
        if (!sheets.has(sheet)) {
            return NONE;
        }
        if (!isSide(side)) {
            return OUTSIDE;
        }
        journal.begin();
        return tally.answer(sheets.tearRow(sheet, side, row));
    }

    public int put(int sheet, int side, int row, int column, int page, int up) {
        if (press.isJammed()) {
            return JAMMED;
        }
        if (!sheets.has(sheet)) {
            return NONE;
        }
        if (!isSide(side) || !within(page, 0, MOST_PAGES) || !within(up, 0, 1)) {
            return OUTSIDE;
        }
        journal.begin();
        int cell = sheets.cellSpot(sheet, side, row, column);
        return cell < 0 ? tally.answer(cell) : sheets.writeCell(cell, page, up);
    }

    public int cell(int sheet, int side, int row, int column, int what) {
        if (!sheets.has(sheet)) {
            return NONE;
        }
        if (!isSide(side) || !within(what, 0, 1)) {
            return OUTSIDE;
        }
        int cell = sheets.cellSpot(sheet, side, row, column);
        if (cell < 0) {
            return tally.answer(cell);
        }
        return what == 0 ? sheets.pageIn(cell) : sheets.upIn(cell);
    }

    public int shift(int from, int side, int i, int to, int other, int j, int rows, int cells) {
        if (press.isJammed()) {
            return JAMMED;
        }
        if (!sheets.has(from) || !sheets.has(to)) {
            return NONE;
        }
        if (!isSide(side) || !isSide(other) || !within(rows, 0, GRID)) {
            return OUTSIDE;
        }
        journal.begin();
        tally.beginMove();
        for (int n = 0; n < rows; n++) {
            int source = sheets.filledRow(from, side, i + n, cells);
            int target = sheets.filledRow(to, other, j + n, cells);
            if (source < 0 || target < 0) {
                return tally.answer(COPY);
            }
            sheets.copyCells(source, target, cells);
            tally.countMovedRow();
        }
        return DONE;
    }

    public int lay(int sheet, int fold, int first) {
        if (press.isJammed()) {
            return JAMMED;
        }
        if (!sheets.has(sheet) || !folds.has(fold)) {
            return NONE;
        }
        if (!within(first, 1, MOST_PAGES)) {
            return OUTSIDE;
        }
        journal.begin();
        return tally.answer(sheets.layPages(sheet, fold, first));
    }

    public int read(int sheet, int fold, int k) {
        if (!sheets.has(sheet) || !folds.has(fold)) {
            return NONE;
        }
        return tally.answer(sheets.readFace(sheet, fold, k));
    }

    public int seen(int sheet, int side, int row, int column, int line, int place) {
        if (!sheets.has(sheet)) {
            return NONE;
        }
        if (!isSide(side)) {
            return OUTSIDE;
        }
        int cell = sheets.cellSpot(sheet, side, row, column);
        return tally.answer(cell < 0 ? cell : sheets.letterSeen(sheet, cell, line, place));
    }

    // ---- signatures, the book

    public int signature(int way) {
        if (press.isJammed()) {
            return JAMMED;
        }
        if (!within(way, BEHIND, INSIDE)) {
            return OUTSIDE;
        }
        if (book.count() >= MOST_SIGNATURES) {
            return FULL;
        }
        journal.begin();
        return book.make(way);
    }

    public int gather(int signature, int sheet) {
        if (press.isJammed()) {
            return JAMMED;
        }
        if (!book.has(signature) || !sheets.has(sheet)) {
            return NONE;
        }
        if (sheets.isGathered(sheet)) {
            return BUSY;
        }
        if (book.sheetsIn(signature) >= MOST_GATHERED) {
            return FULL;
        }
        journal.begin();
        return book.take(signature, sheet);
    }

    public int bind(int signature, int fold, int first) {
        if (press.isJammed()) {
            return JAMMED;
        }
        if (!book.has(signature) || !folds.has(fold)) {
            return NONE;
        }
        if (!within(first, 1, MOST_PAGES)) {
            return OUTSIDE;
        }
        journal.begin();
        return tally.answer(book.layPages(signature, fold, first));
    }

    public int leaf(int signature, int fold, int k, int what) {
        if (!book.has(signature) || !folds.has(fold)) {
            return NONE;
        }
        if (!within(what, 0, 1)) {
            return OUTSIDE;
        }
        int count = book.foldSheets(signature, fold);
        int face = count < 0 ? count : book.findFace(signature, k);
        if (face < 0) {
            return tally.answer(face);
        }
        return what == 0 ? face / FACES : face % FACES;
    }

    public int creep(int signature, int fold, int i) {
        if (!book.has(signature) || !folds.has(fold)) {
            return NONE;
        }
        if (i < 0 || i >= book.sheetsIn(signature)) {
            return tally.answer(BEYOND);
        }
        return book.isInside(signature) ? i * folds.thickOf(fold) : 0;
    }

    public int add(int signature) {
        if (press.isJammed()) {
            return JAMMED;
        }
        if (!book.has(signature)) {
            return NONE;
        }
        if (book.isBooked(signature)) {
            return BUSY;
        }
        journal.begin();
        return book.append(signature);
    }

    public int cover(int sheet) {
        if (press.isJammed()) {
            return JAMMED;
        }
        if (sheet != Book.LACKS && !sheets.has(sheet)) {
            return NONE;
        }
        journal.begin();
        return book.coverWith(sheet);
    }

    public int pageAt(int fold, int k) {
        if (!folds.has(fold)) {
            return NONE;
        }
        return tally.answer(book.readFace(fold, k));
    }

    public int wrap(int fold, int k) {
        if (!folds.has(fold)) {
            return NONE;
        }
        int sheet = book.coverSheet();
        return tally.answer(sheet == Book.LACKS ? BLANK : sheets.readFace(sheet, fold, k));
    }

    // ---- the run

    public int foldBy(int sheet, int fold) {
        if (press.isJammed()) {
            return JAMMED;
        }
        if (!sheets.has(sheet) || !folds.has(fold)) {
            return NONE;
        }
        journal.begin();
        return sheets.tellFold(sheet, fold);
    }

    public int margin(int n) {
        if (press.isJammed()) {
            return JAMMED;
        }
        if (!within(n, 0, MOST_MARGIN)) {
            return OUTSIDE;
        }
        journal.begin();
        return press.changeMargin(n);
    }

    public int feed(int sheet) {
        if (press.isJammed()) {
            return JAMMED;
        }
        if (!sheets.has(sheet)) {
            return NONE;
        }
        if (sheets.placeOf(sheet) != REST || sheets.sheetAt(FEED) >= 0) {
            return BUSY;
        }
        journal.begin();
        return sheets.enter(sheet, tally.giveNumber());
    }

    public int doubled() {
        if (press.isJammed()) {
            return JAMMED;
        }
        journal.begin();
        return press.tellDouble();
    }

    public int jam(int station) {
        if (press.isJammed()) {
            return JAMMED;
        }
        if (!within(station, FEED, TRIM)) {
            return OUTSIDE;
        }
        journal.begin();
        return press.tellJam(station);
    }

    public int step() {
        if (press.isJammed()) {
            return JAMMED;
        }
        journal.begin();
        int well = 0;
        // From the last station back, so that each sheet finds the next station left.
        for (int station = TRIM; station >= FEED && !press.isJammed(); station--) {
            well += press.workAt(station);
        }
        return well;
    }

    public int reprint(int sheet) {
        if (press.isJammed()) {
            return JAMMED;
        }
        if (!sheets.has(sheet)) {
            return NONE;
        }
        if (sheets.placeOf(sheet) != SPOILT) {
            return BUSY;
        }
        journal.begin();
        return sheets.layToRest(sheet);
    }

    public int clear() {
        journal.begin();
        return press.endJam();
    }

    public int state(int sheet, int what) {
        if (!sheets.has(sheet)) {
            return NONE;
        }
        switch (what) {
            case 0:
                return sheets.placeOf(sheet);
            case 1:
                return sheets.numberOf(sheet);
            case 2:
                return sheets.causeOf(sheet);
            default:
                return OUTSIDE;
        }
    }

    public int good(int signature) {
        if (!book.has(signature)) {
            return NONE;
        }
        return book.goodSheets(signature);
    }

    public int undo() {
        if (press.isJammed()) {
            return JAMMED;
        }
        return journal.takeBack() ? 1 : 0;
    }

    public int told(int what) {
        if (!within(what, 0, MOST_TOLD)) {
            return OUTSIDE;
        }
        switch (what) {
            case 5:
                return press.isJammed() ? 1 : 0;
            case 7:
                return jobs.count();
            case 8:
                return folds.count();
            case 9:
                return sheets.count();
            case 10:
                return book.count();
            case 11:
                return book.bookedCount();
            case 12:
                return press.currentMargin();
            default:
                return tally.counted(what);
        }
    }

    public int trace(int i) {
        return tally.traced(i);
    }

    public int about(int job, int what) {
        if (!jobs.has(job)) {
            return NONE;
        }
        switch (what) {
            case 0:
                return jobs.pagesOf(job);
            case 1:
                return jobs.linesOf(job);
            case 2:
                return jobs.widthOf(job);
            default:
                return OUTSIDE;
        }
    }

    private static boolean within(int n, int lowest, int highest) {
        return n >= lowest && n <= highest;
    }

    private static boolean isSide(int side) {
        return within(side, 0, SIDES - 1);
    }

    /** What the latest CHANGE wrote over, so that undo() can bring it back. */
    private static final class Journal {
        // bind() writes most: 128 cells on each of 4 sheets.
        private static final int ROOM = 640;

        private final Kept[] rows = new Kept[ROOM];
        private final int[] places = new int[ROOM];
        private final int[] numbers = new int[ROOM];
        private int noted = 0;
        private boolean holdsChange = false;

        void begin() {
            noted = 0;
            holdsChange = true;
        }

        void note(Kept row, int place, int number) {
            if (noted < ROOM) {
                rows[noted] = row;
                places[noted] = place;
                numbers[noted] = number;
                noted++;
            }
        }

        boolean takeBack() {
            if (!holdsChange) {
                return false;
            }
            // From the last note back, so that a place written twice ends with its oldest number.
            for (int i = Math.min(noted, ROOM) - 1; i >= 0; i--) {
                Kept row = rows[i];
                if (row != null) {
                    row.setUnnoted(places[i], numbers[i]);
                }
            }
            noted = 0;
            holdsChange = false;
            return true;
        }
    }

    /** A row of numbers that undo() brings back. */
    private static final class Kept {
        private final Journal journal;
        private final int[] numbers;

        Kept(Journal journal, int length) {
            this.journal = journal;
            this.numbers = new int[Math.max(length, 0)];
        }

        int get(int place) {
            return place >= 0 && place < numbers.length ? numbers[place] : 0;
        }

        void set(int place, int number) {
            if (place >= 0 && place < numbers.length && numbers[place] != number) {
                journal.note(this, place, numbers[place]);
                numbers[place] = number;
            }
        }

        /** For parts of a thing that is only being made: undo() takes the whole thing away. */
        void setUnnoted(int place, int number) {
            if (place >= 0 && place < numbers.length) {
                numbers[place] = number;
            }
        }
    }

    /** What is only ever counted: undo() takes none of it back. */
    private static final class Tally {
        private static final int TRACE_KEPT = 40;

        private final int[] trace = new int[TRACE_KEPT];
        private int traceCount = 0;
        private int found = 0;
        private int latestFinding = 0;
        private int worked = 0;
        private int ink = 0;
        private int numbersGiven = 0;
        private int rowsMoved = 0;

        /** Counts an answer that is a FINDING, and hands every answer on. */
        int answer(int answer) {
            if (answer <= BLANK) {
                found++;
                latestFinding = findingOf(answer);
            }
            return answer;
        }

        static int findingOf(int answer) {
            return -10 - answer;
        }

        void note(int number) {
            trace[Math.floorMod(traceCount, TRACE_KEPT)] = number;
            traceCount++;
        }

        int traced(int i) {
            if (i < 0 || i >= TRACE_KEPT || i >= traceCount) {
                return NONE;
            }
            return trace[Math.floorMod(traceCount - 1 - i, TRACE_KEPT)];
        }

        int counted(int what) {
            switch (what) {
                case 0:
                    return found;
                case 1:
                    return latestFinding;
                case 2:
                    return worked;
                case 3:
                    return ink;
                case 4:
                    return numbersGiven;
                default:
                    return traceCount;
            }
        }

        void countWork() {
            worked++;
        }

        void useInk(int amount) {
            ink += amount;
        }

        int giveNumber() {
            numbersGiven++;
            return numbersGiven - 1;
        }

        void beginMove() {
            rowsMoved = 0;
        }

        void countMovedRow() {
            rowsMoved++;
        }

        int movedRows() {
            return rowsMoved;
        }
    }

    /** The jobs; a page is known by its spot among the pages of all jobs. */
    private static final class Jobs {
        // Stands for the number of rows of a BLANK page, of letters of a MISSING row.
        private static final int GONE = -1;

        private final Kept total;
        private final Kept lines;
        private final Kept widths;
        private final Kept pages;
        private final Kept rowCounts;
        private final Kept letterCounts;
        private final Kept letters;

        Jobs(Journal journal) {
            int spots = MOST_JOBS * MOST_PAGES;
            total = new Kept(journal, 1);
            lines = new Kept(journal, MOST_JOBS);
            widths = new Kept(journal, MOST_JOBS);
            pages = new Kept(journal, MOST_JOBS);
            rowCounts = new Kept(journal, spots);
            letterCounts = new Kept(journal, spots * MOST_LINES);
            letters = new Kept(journal, spots * MOST_LINES * MOST_WIDTH);
        }

        int count() {
            return total.get(0);
        }

        boolean has(int job) {
            return job >= 0 && job < total.get(0);
        }

        boolean hasPage(int job, int page) {
            return has(job) && page >= 1 && page <= pages.get(job);
        }

        int pagesOf(int job) {
            return pages.get(job);
        }

        int linesOf(int job) {
            return lines.get(job);
        }

        int widthOf(int job) {
            return widths.get(job);
        }

        int spotOf(int job, int page) {
            return job * MOST_PAGES + page - 1;
        }

        int make(int lineCount, int width) {
            int job = total.get(0);
            lines.set(job, lineCount);
            widths.set(job, width);
            // It has no pages still: undo() takes a job away only while no later change has touched it.
            total.set(0, job + 1);
            return job;
        }

        int makePage(int job) {
            int page = pages.get(job) + 1;
            rowCounts.set(spotOf(job, page), GONE);
            pages.set(job, page);
            return page;
        }

        int makeBlank(int spot) {
            rowCounts.set(spot, GONE);
            return DONE;
        }

        int makeRows(int spot, int n) {
            if (n > MOST_LINES) {
                return LARGE;
            }
            if (n < 0) {
                return SIZE;
            }
            rowCounts.set(spot, n);
            for (int i = 0; i < n; i++) {
                letterCounts.set(spot * MOST_LINES + i, GONE);
            }
            return DONE;
        }

        int makeRow(int spot, int i, int n) {
            if (n > MOST_WIDTH) {
                return LARGE;
            }
            if (n < 0) {
                return SIZE;
            }
            int row = rowSpot(spot, i);
            if (row < 0) {
                return row;
            }
            letterCounts.set(row, n);
            for (int k = 0; k < n; k++) {
                letters.set(row * MOST_WIDTH + k, LOWEST_LETTER);
            }
            return DONE;
        }

        int makeMissing(int spot, int i) {
            int row = rowSpot(spot, i);
            if (row < 0) {
                return row;
            }
            letterCounts.set(row, GONE);
            return DONE;
        }

        int writeLetter(int spot, int i, int k, int c) {
            int place = letterSpot(rowSpot(spot, i), k);
            if (place < 0) {
                return place;
            }
            letters.set(place, c);
            return DONE;
        }

        int letterAt(int spot, int i, int k) {
            int place = letterSpot(rowSpot(spot, i), k);
            return place < 0 ? place : letters.get(place);
        }

        int rowsOf(int spot) {
            int count = rowCounts.get(spot);
            return count == GONE ? BLANK : count;
        }

        int lettersOf(int spot, int i) {
            int row = rowSpot(spot, i);
            if (row < 0) {
                return row;
            }
            int count = letterCounts.get(row);
            return count == GONE ? BLANK : count;
        }

        /** Where a row's letter count stands, or the FINDING that there is no such row. */
        private int rowSpot(int spot, int i) {
            int count = rowCounts.get(spot);
            if (count == GONE) {
                return BLANK;
            }
            return i < 0 || i >= count ? BEYOND : spot * MOST_LINES + i;
        }

        /** Where a letter of what rowSpot() told stands, or the FINDING that there is no such letter. */
        private int letterSpot(int row, int k) {
            if (row < 0) {
                return row;
            }
            int count = letterCounts.get(row);
            if (count == GONE) {
                return BLANK;
            }
            return k < 0 || k >= count ? BEYOND : row * MOST_WIDTH + k;
        }

        /** False, and nothing is copied, if one of both rows has not so many letters. */
        boolean copyRow(int fromSpot, int i, int toSpot, int j, int n) {
            int source = rowSpot(fromSpot, i);
            int target = rowSpot(toSpot, j);
            // A MISSING row counts GONE letters, which is below every n that is let through.
            if (n < 0 || source < 0 || target < 0 || letterCounts.get(source) < n || letterCounts.get(target) < n) {
                return false;
            }
            for (int k = 0; k < n; k++) {
                letters.set(target * MOST_WIDTH + k, letters.get(source * MOST_WIDTH + k));
            }
            return true;
        }

        int trimTo(int job, int lineCount, int width) {
            if (lineCount > MOST_LINES || width > MOST_WIDTH) {
                return LARGE;
            }
            if (lineCount < 0 || width < 0) {
                return SIZE;
            }
            lines.set(job, lineCount);
            widths.set(job, width);
            for (int page = 1; page <= pages.get(job); page++) {
                trimPage(spotOf(job, page), lineCount, width);
            }
            return DONE;
        }

        private void trimPage(int spot, int lineCount, int width) {
            // GONE is below every count, so BLANK pages and MISSING rows stay what they are.
            rowCounts.set(spot, Math.min(rowCounts.get(spot), lineCount));
            for (int i = 0; i < rowCounts.get(spot); i++) {
                int row = spot * MOST_LINES + i;
                letterCounts.set(row, Math.min(letterCounts.get(row), width));
            }
        }

        /** The caller has seen to it that the pages of both fit. */
        int append(int a, int b) {
            int before = pages.get(a);
            int coming = pages.get(b);
            for (int page = 1; page <= coming; page++) {
                copyPage(spotOf(b, page), spotOf(a, before + page));
            }
            pages.set(a, before + coming);
            return before + coming;
        }

        private void copyPage(int from, int to) {
            rowCounts.setUnnoted(to, rowCounts.get(from));
            for (int i = 0; i < rowCounts.get(from); i++) {
                int source = from * MOST_LINES + i;
                int target = to * MOST_LINES + i;
                letterCounts.setUnnoted(target, letterCounts.get(source));
                for (int k = 0; k < letterCounts.get(source); k++) {
                    letters.setUnnoted(target * MOST_WIDTH + k, letters.get(source * MOST_WIDTH + k));
                }
            }
        }
    }

    /** The folds, and the leaves of what the present call folded: a row of them for each sheet. */
    private static final class Folds {
        private static final int[] THICK = {1, 2, 3, 2, 4};
        private static final int[] TRIMS = {0, 1, 1, 2, 3};

        private final Tally tally;
        private final Piles piles;
        private final int[] leaves = new int[MOST_SHEETS * LEAVES];
        private final Kept total;
        private final Kept kinds;
        private final Kept axes;
        private final Kept firsts;
        private final Kept seconds;
        private final Kept plainCounts;
        private final Kept thicks;
        private final Kept trims;

        Folds(Journal journal, Tally tally) {
            this.tally = tally;
            piles = new Piles(tally);
            total = new Kept(journal, 1);
            kinds = new Kept(journal, MOST_FOLDS);
            axes = new Kept(journal, MOST_FOLDS);
            firsts = new Kept(journal, MOST_FOLDS);
            seconds = new Kept(journal, MOST_FOLDS);
            plainCounts = new Kept(journal, MOST_FOLDS);
            thicks = new Kept(journal, MOST_FOLDS);
            trims = new Kept(journal, MOST_FOLDS);
        }

        int count() {
            return total.get(0);
        }

        boolean has(int fold) {
            return fold >= 0 && fold < total.get(0);
        }

        int plainOf(int fold) {
            return plainCounts.get(fold);
        }

        int thickOf(int fold) {
            return thicks.get(fold);
        }

        int trimOf(int fold) {
            return trims.get(fold);
        }

        int lipsOf(int fold) {
            switch (kinds.get(fold)) {
                case GATE:
                    return 2;
                case SHUT:
                    return 3;
                default:
                    return KIND;
            }
        }

        int partOf(int fold, int which) {
            if (kinds.get(fold) != CROSS) {
                return KIND;
            }
            return which == 0 ? firsts.get(fold) : seconds.get(fold);
        }

        int makePlain(int kind, int axis) {
            int fold = total.get(0);
            kinds.set(fold, kind);
            axes.set(fold, axis);
            plainCounts.set(fold, 1);
            if (kind >= 0 && kind < THICK.length && kind < TRIMS.length) {
                thicks.set(fold, THICK[kind]);
                trims.set(fold, TRIMS[kind]);
            }
            total.set(0, fold + 1);
            return fold;
        }

        int makeCross(int first, int second) {
            int fold = total.get(0);
            kinds.set(fold, CROSS);
            firsts.set(fold, first);
            seconds.set(fold, second);
            plainCounts.set(fold, plainCounts.get(first) + plainCounts.get(second));
            thicks.set(fold, thicks.get(first) * thicks.get(second));
            trims.set(fold, trims.get(first) + trims.get(second));
            total.set(0, fold + 1);
            return fold;
        }

        /** Folds a grid, keeps its leaves for a sheet, and tells how many faces they have: or UNFIT, OPEN. */
        int foldGrid(int fold, int rows, int columns, int sheet) {
            piles.spread(rows, columns);
            int done = perform(fold, 0);
            if (done < 0) {
                return done;
            }
            if (!piles.isOnePile()) {
                return OPEN;
            }
            return SIDES * piles.listLeaves(leaves, sheet * LEAVES);
        }

        /** A CROSS of at most 8 plain folds is less than 8 deep: the bound on the depth is never met. */
        private int perform(int fold, int depth) {
            if (depth > MOST_PLAIN_FOLDS) {
                return UNFIT;
            }
            switch (kinds.get(fold)) {
                case HALF:
                    return piles.halve(axes.get(fold));
                case THIRD:
                    return piles.foldThird(axes.get(fold));
                case GATE:
                    return piles.foldGate(axes.get(fold));
                case SHUT:
                    tally.note(SHUT + 1);
                    int gated = piles.foldGate(axes.get(fold));
                    return gated < 0 ? gated : piles.halve(axes.get(fold));
                case CROSS:
                    tally.note(CROSS + 1);
                    int first = perform(firsts.get(fold), depth + 1);
                    return first < 0 ? first : perform(seconds.get(fold), depth + 1);
                default:
                    tally.note(FLAT + 1);
                    return DONE;
            }
        }

        /** Of a face of a sheet that the present call folded: 0 its side, 1 row, 2 column, 3 UP. */
        int faceOf(int sheet, int k, int what) {
            int place = sheet * LEAVES + k / SIDES;
            if (k < 0 || place < 0 || place >= leaves.length) {
                return 0;
            }
            int leaf = leaves[place];
            switch (what) {
                case 0:
                    return Piles.sideAbove(leaf) ^ (k % SIDES);
                case 1:
                    return Piles.rowOf(leaf);
                case 2:
                    return Piles.columnOf(leaf);
                default:
                    return Piles.upOf(leaf);
            }
        }
    }

    /**
     * A grid of piles that is being folded. Piles keep the places that they had in the unfolded grid; a fold
     * narrows the window of rows or columns that still have piles.
     */
    private static final class Piles {
        private static final int EMPTY = -1;
        // How a leaf lies: its back above, the other way UP.
        private static final int BACK = 2, UP = 1, LIES = 4;

        private final Tally tally;
        private final int[] starts = new int[2];
        private final int[] counts = new int[2];
        private final int[] tops = new int[LEAVES];
        private final int[] belows = new int[LEAVES];
        private final int[] lies = new int[LEAVES];

        Piles(Tally tally) {
            this.tally = tally;
        }

        static int sideAbove(int leaf) {
            return (leaf & BACK) / BACK;
        }

        static int upOf(int leaf) {
            return leaf & UP;
        }

        static int rowOf(int leaf) {
            return leaf / LIES / GRID;
        }

        static int columnOf(int leaf) {
            return leaf / LIES % GRID;
        }

        void spread(int rows, int columns) {
            starts[BY_ROWS] = 0;
            starts[BY_COLUMNS] = 0;
            counts[BY_ROWS] = rows;
            counts[BY_COLUMNS] = columns;
            for (int place = 0; place < LEAVES; place++) {
                tops[place] = place;
                belows[place] = EMPTY;
                lies[place] = 0;
            }
        }

        boolean isOnePile() {
            return counts[BY_ROWS] == 1 && counts[BY_COLUMNS] == 1;
        }

        int halve(int axis) {
            tally.note(HALF + 1);
            int w = share(axis, 2);
            if (w < 0) {
                return UNFIT;
            }
            for (int k = 0; k < w; k++) {
                turnOver(axis, w + k, w - 1 - k);
            }
            return narrow(axis, 0, w);
        }

        int foldThird(int axis) {
            tally.note(THIRD + 1);
            int w = share(axis, 3);
            if (w < 0) {
                return UNFIT;
            }
            for (int k = 0; k < w; k++) {
                turnOver(axis, 2 * w + k, 2 * w - 1 - k);
            }
            // Only now, for the first third lies above the whole last third.
            for (int k = 0; k < w; k++) {
                turnOver(axis, w - 1 - k, w + k);
            }
            return narrow(axis, w, w);
        }

        int foldGate(int axis) {
            tally.note(GATE + 1);
            int w = share(axis, 4);
            if (w < 0) {
                return UNFIT;
            }
            for (int k = 0; k < w; k++) {
                turnOver(axis, w - 1 - k, w + k);
                turnOver(axis, 3 * w + k, 3 * w - 1 - k);
            }
            return narrow(axis, w, 2 * w);
        }

        /** How many piles each of so many equal parts has, or UNFIT. */
        private int share(int axis, int parts) {
            int n = counts[axis == BY_ROWS ? BY_ROWS : BY_COLUMNS];
            return parts < 1 || n % parts != 0 ? UNFIT : n / parts;
        }

        private int narrow(int axis, int skipped, int left) {
            int by = axis == BY_ROWS ? BY_ROWS : BY_COLUMNS;
            starts[by] += skipped;
            counts[by] = left;
            return DONE;
        }

        /** In each line, a pile comes turned over on top of another: its uppermost leaf first. */
        private void turnOver(int axis, int from, int to) {
            boolean byRows = axis == BY_ROWS;
            int lines = counts[byRows ? BY_COLUMNS : BY_ROWS];
            int flip = byRows ? BACK | UP : BACK;
            for (int line = 0; line < lines; line++) {
                int source = byRows ? placeOf(from, line) : placeOf(line, from);
                int target = byRows ? placeOf(to, line) : placeOf(line, to);
                int leaf = tops[source];
                for (int n = 0; n < LEAVES && isLeaf(leaf); n++) {
                    int next = belows[leaf];
                    belows[leaf] = tops[target];
                    tops[target] = leaf;
                    lies[leaf] ^= flip;
                    leaf = next;
                }
                tops[source] = EMPTY;
            }
        }

        /** Not EMPTY, and so a place of the rows that are kept by leaf. */
        private static boolean isLeaf(int leaf) {
            return leaf >= 0 && leaf < LEAVES;
        }

        /** Where the pile of a row and a column of the window lies; always one of the places of the grid. */
        private int placeOf(int row, int column) {
            int place = (starts[BY_ROWS] + row) * GRID + starts[BY_COLUMNS] + column;
            return place < 0 || place >= LEAVES ? 0 : place;
        }

        /** Writes the leaves of the one pile that is left, from above down, and tells how many they are. */
        int listLeaves(int[] list, int start) {
            int leaf = tops[placeOf(0, 0)];
            int count = 0;
            while (isLeaf(leaf) && count < LEAVES && start >= 0 && start + count < list.length) {
                list[start + count] = leaf * LIES + lies[leaf];
                leaf = belows[leaf];
                count++;
            }
            return count;
        }
    }

    /** The sheets: their cells, and what the run knows of each. */
    private static final class Sheets {
        private static final int UNTOLD = -1;

        private final Jobs jobs;
        private final Folds folds;
        private final Kept total;
        private final Kept owners;
        private final Kept rowCounts;
        private final Kept columnCounts;
        private final Kept torn;
        // A cell's page, twice, and 1 more if it lies the other way UP.
        private final Kept cells;
        private final Kept gathered;
        private final Kept toldFolds;
        private final Kept places;
        private final Kept numbers;
        private final Kept causes;

        Sheets(Journal journal, Jobs jobs, Folds folds) {
            this.jobs = jobs;
            this.folds = folds;
            total = new Kept(journal, 1);
            owners = new Kept(journal, MOST_SHEETS);
            rowCounts = new Kept(journal, MOST_SHEETS);
            columnCounts = new Kept(journal, MOST_SHEETS);
            torn = new Kept(journal, MOST_SHEETS * SIDES * GRID);
            cells = new Kept(journal, MOST_SHEETS * SIDES * LEAVES);
            gathered = new Kept(journal, MOST_SHEETS);
            toldFolds = new Kept(journal, MOST_SHEETS);
            places = new Kept(journal, MOST_SHEETS);
            numbers = new Kept(journal, MOST_SHEETS);
            causes = new Kept(journal, MOST_SHEETS);
        }

        int count() {
            return total.get(0);
        }

        boolean has(int sheet) {
            return sheet >= 0 && sheet < total.get(0);
        }

        int make(int job, int rows, int columns) {
            int sheet = total.get(0);
            owners.set(sheet, job);
            rowCounts.set(sheet, rows);
            columnCounts.set(sheet, columns);
            toldFolds.set(sheet, UNTOLD);
            places.set(sheet, REST);
            numbers.set(sheet, UNTOLD);
            // All else is 0 still: undo() takes a sheet away only while no later change has touched it.
            total.set(0, sheet + 1);
            return sheet;
        }

        int rowsOf(int sheet) {
            return rowCounts.get(sheet);
        }

        int columnsOf(int sheet) {
            return columnCounts.get(sheet);
        }

        int leavesOf(int sheet) {
            return rowCounts.get(sheet) * columnCounts.get(sheet);
        }

        private static int rowSpot(int sheet, int side, int row) {
            return (sheet * SIDES + side) * GRID + row;
        }

        private boolean hasRow(int sheet, int row) {
            return row >= 0 && row < rowCounts.get(sheet);
        }

        boolean isTorn(int sheet, int side, int row) {
            return torn.get(rowSpot(sheet, side, row)) != 0;
        }

        int tearRow(int sheet, int side, int row) {
            if (!hasRow(sheet, row)) {
                return BEYOND;
            }
            torn.set(rowSpot(sheet, side, row), 1);
            return DONE;
        }

        /** Where a cell stands, or the FINDING that there is no such cell. */
        int cellSpot(int sheet, int side, int row, int column) {
            if (!hasRow(sheet, row)) {
                return BEYOND;
            }
            if (isTorn(sheet, side, row)) {
                return BLANK;
            }
            if (column < 0 || column >= columnCounts.get(sheet)) {
                return BEYOND;
            }
            return rowSpot(sheet, side, row) * GRID + column;
        }

        int writeCell(int cell, int page, int up) {
            cells.set(cell, 2 * page + up);
            return DONE;
        }

        int pageIn(int cell) {
            return cells.get(cell) / 2;
        }

        int upIn(int cell) {
            return cells.get(cell) % 2;
        }

        /** Where the first cell of a row stands that has at least so many, or COPY. */
        int filledRow(int sheet, int side, int row, int n) {
            if (n < 0 || n > columnCounts.get(sheet) || !hasRow(sheet, row) || isTorn(sheet, side, row)) {
                return COPY;
            }
            return rowSpot(sheet, side, row) * GRID;
        }

        void copyCells(int source, int target, int n) {
            for (int k = 0; k < n; k++) {
                cells.set(target + k, cells.get(source + k));
            }
        }

        int layPages(int sheet, int fold, int first) {
            int count = folds.foldGrid(fold, rowCounts.get(sheet), columnCounts.get(sheet), sheet);
            for (int k = 0; k < count; k++) {
                int done = layFace(sheet, k, first + k);
                if (done < 0) {
                    return done;
                }
            }
            return count;
        }

        /** For a sheet that the present call folded. */
        int layFace(int sheet, int k, int page) {
            int cell = faceCell(sheet, k);
            if (cell < 0) {
                return cell;
            }
            int laid = jobs.hasPage(owners.get(sheet), page) ? page : 0;
            return writeCell(cell, laid, folds.faceOf(sheet, k, 3));
        }

        /** For a sheet that the present call folded: the cell that is a face, or BLANK. */
        private int faceCell(int sheet, int k) {
            int side = folds.faceOf(sheet, k, 0);
            return cellSpot(sheet, side, folds.faceOf(sheet, k, 1), folds.faceOf(sheet, k, 2));
        }

        int readFace(int sheet, int fold, int k) {
            int count = folds.foldGrid(fold, rowCounts.get(sheet), columnCounts.get(sheet), sheet);
            if (count < 0) {
                return count;
            }
            return k < 0 || k >= count ? BEYOND : pageOnFace(sheet, k);
        }

        /** For a sheet that the present call folded. */
        int pageOnFace(int sheet, int k) {
            int cell = faceCell(sheet, k);
            return cell < 0 ? cell : pageIn(cell);
        }

        int letterSeen(int sheet, int cell, int line, int place) {
            int job = owners.get(sheet);
            int page = pageIn(cell);
            if (!jobs.hasPage(job, page)) {
                return BLANK;
            }
            int spot = jobs.spotOf(job, page);
            if (upIn(cell) == 0) {
                return jobs.letterAt(spot, line, place);
            }
            return jobs.letterAt(spot, jobs.linesOf(job) - 1 - line, jobs.widthOf(job) - 1 - place);
        }

        boolean isGathered(int sheet) {
            return gathered.get(sheet) != 0;
        }

        void markGathered(int sheet) {
            gathered.set(sheet, 1);
        }

        int tellFold(int sheet, int fold) {
            toldFolds.set(sheet, fold);
            return DONE;
        }

        /** The fold that is told for a sheet; no fold's number if none is. */
        int toldFold(int sheet) {
            return toldFolds.get(sheet);
        }

        int placeOf(int sheet) {
            return places.get(sheet);
        }

        int numberOf(int sheet) {
            return numbers.get(sheet);
        }

        int causeOf(int sheet) {
            return causes.get(sheet);
        }

        /** The sheet at a station, or -1. */
        int sheetAt(int station) {
            for (int sheet = 0; sheet < total.get(0); sheet++) {
                if (places.get(sheet) == station) {
                    return sheet;
                }
            }
            return -1;
        }

        int enter(int sheet, int number) {
            places.set(sheet, FEED);
            numbers.set(sheet, number);
            return number;
        }

        void passOn(int sheet) {
            places.set(sheet, places.get(sheet) + 1);
        }

        void spoil(int sheet, int finding) {
            places.set(sheet, SPOILT);
            causes.set(sheet, finding);
        }

        int layToRest(int sheet) {
            places.set(sheet, REST);
            causes.set(sheet, 0);
            return DONE;
        }
    }

    /** The signatures, the book and its cover. */
    private static final class Book {
        static final int LACKS = -1;

        private final Folds folds;
        private final Sheets sheets;
        private final Kept total;
        private final Kept ways;
        private final Kept sheetCounts;
        private final Kept members;
        private final Kept booked;
        private final Kept bookLength;
        private final Kept order;
        private final Kept coverNumber;

        Book(Journal journal, Folds folds, Sheets sheets) {
            this.folds = folds;
            this.sheets = sheets;
            total = new Kept(journal, 1);
            ways = new Kept(journal, MOST_SIGNATURES);
            sheetCounts = new Kept(journal, MOST_SIGNATURES);
            members = new Kept(journal, MOST_SIGNATURES * MOST_GATHERED);
            booked = new Kept(journal, MOST_SIGNATURES);
            bookLength = new Kept(journal, 1);
            order = new Kept(journal, MOST_SIGNATURES);
            coverNumber = new Kept(journal, 1);
            coverNumber.setUnnoted(0, LACKS);
        }

        int count() {
            return total.get(0);
        }

        boolean has(int signature) {
            return signature >= 0 && signature < total.get(0);
        }

        int make(int way) {
            int signature = total.get(0);
            ways.set(signature, way);
            // All else is 0 still: undo() takes a signature away only while no later change has touched it.
            total.set(0, signature + 1);
            return signature;
        }

        int sheetsIn(int signature) {
            return sheetCounts.get(signature);
        }

        boolean isInside(int signature) {
            return ways.get(signature) == INSIDE;
        }

        int take(int signature, int sheet) {
            int count = sheetCounts.get(signature);
            members.set(signature * MOST_GATHERED + count, sheet);
            sheetCounts.set(signature, count + 1);
            sheets.markGathered(sheet);
            return count + 1;
        }

        private int member(int signature, int i) {
            return members.get(signature * MOST_GATHERED + i);
        }

        /** Folds all sheets of a signature, in order, and tells how many faces it has: or UNFIT, OPEN. */
        int foldSheets(int signature, int fold) {
            int faceCount = 0;
            for (int i = 0; i < sheetCounts.get(signature); i++) {
                int sheet = member(signature, i);
                int count = folds.foldGrid(fold, sheets.rowsOf(sheet), sheets.columnsOf(sheet), sheet);
                if (count < 0) {
                    return count;
                }
                faceCount += count;
            }
            return faceCount;
        }

        /** The sheet of a signature's face times FACES, and which of that sheet's faces it is: or BEYOND. */
        int findFace(int signature, int k) {
            if (k < 0) {
                return BEYOND;
            }
            boolean inside = isInside(signature);
            int count = sheetCounts.get(signature);
            int left = k;
            for (int i = 0; i < count; i++) {
                int sheet = member(signature, i);
                int part = inside ? sheets.leavesOf(sheet) : SIDES * sheets.leavesOf(sheet);
                if (left < part) {
                    return sheet * FACES + left;
                }
                left -= part;
            }
            for (int i = count - 1; inside && i >= 0; i--) {
                int sheet = member(signature, i);
                int half = sheets.leavesOf(sheet);
                if (left < half) {
                    return sheet * FACES + half + left;
                }
                left -= half;
            }
            return BEYOND;
        }

        int layPages(int signature, int fold, int first) {
            int count = foldSheets(signature, fold);
            for (int k = 0; k < count; k++) {
                int face = findFace(signature, k);
                int done = face < 0 ? face : sheets.layFace(face / FACES, face % FACES, first + k);
                if (done < 0) {
                    return done;
                }
            }
            return count;
        }

        boolean isBooked(int signature) {
            return booked.get(signature) != 0;
        }

        int bookedCount() {
            return bookLength.get(0);
        }

        int append(int signature) {
            int length = bookLength.get(0);
            order.set(length, signature);
            booked.set(signature, 1);
            bookLength.set(0, length + 1);
            return length + 1;
        }

        int readFace(int fold, int k) {
            for (int i = 0; i < bookLength.get(0); i++) {
                int count = foldSheets(order.get(i), fold);
                if (count < 0) {
                    return count;
                }
            }
            int left = k;
            for (int i = 0; i < bookLength.get(0); i++) {
                int face = findFace(order.get(i), left);
                if (face >= 0) {
                    return sheets.pageOnFace(face / FACES, face % FACES);
                }
                left -= faceCount(order.get(i));
            }
            return BEYOND;
        }

        private int faceCount(int signature) {
            int count = 0;
            for (int i = 0; i < sheetCounts.get(signature); i++) {
                count += SIDES * sheets.leavesOf(member(signature, i));
            }
            return count;
        }

        int coverWith(int sheet) {
            coverNumber.set(0, sheet);
            return DONE;
        }

        int coverSheet() {
            return coverNumber.get(0);
        }

        int goodSheets(int signature) {
            int count = sheetCounts.get(signature);
            int i = 0;
            while (i < count && sheets.placeOf(member(signature, i)) == GOOD) {
                i++;
            }
            return i;
        }
    }

    /** The run through the stations. */
    private static final class Press {
        private static final int FIRST_MARGIN = 3;

        private final Tally tally;
        private final Folds folds;
        private final Sheets sheets;
        private final Kept jams;
        private final Kept doubleTold;
        private final Kept jammed;
        private final Kept marginNow;

        Press(Journal journal, Tally tally, Folds folds, Sheets sheets) {
            this.tally = tally;
            this.folds = folds;
            this.sheets = sheets;
            jams = new Kept(journal, TRIM + 1);
            doubleTold = new Kept(journal, 1);
            jammed = new Kept(journal, 1);
            marginNow = new Kept(journal, 1);
            marginNow.setUnnoted(0, FIRST_MARGIN);
        }

        boolean isJammed() {
            return jammed.get(0) != 0;
        }

        int endJam() {
            int was = jammed.get(0);
            jammed.set(0, 0);
            return was;
        }

        int currentMargin() {
            return marginNow.get(0);
        }

        int changeMargin(int n) {
            int was = marginNow.get(0);
            marginNow.set(0, n);
            return was;
        }

        int tellDouble() {
            doubleTold.set(0, 1);
            return DONE;
        }

        int tellJam(int station) {
            jams.set(station, 1);
            return DONE;
        }

        /** How many sheets, none or one, went well at a station. */
        int workAt(int station) {
            int sheet = sheets.sheetAt(station);
            if (sheet < 0) {
                return 0;
            }
            tally.countWork();
            int done = jams.get(station) != 0 ? block(station) : work(sheet, station);
            if (done < 0) {
                sheets.spoil(sheet, Tally.findingOf(tally.answer(done)));
                return 0;
            }
            sheets.passOn(sheet);
            return 1;
        }

        private int block(int station) {
            jams.set(station, 0);
            jammed.set(0, 1);
            return JAM;
        }

        /** What a station does to a sheet: 0 or more, or the FINDING that spoils it. */
        private int work(int sheet, int station) {
            switch (station) {
                case FEED:
                    return separate();
                case PRINT:
                    return inkSide(sheet, 0);
                case TURN:
                    return inkSide(sheet, 1);
                case FOLD:
                    int fold = sheets.toldFold(sheet);
                    if (!folds.has(fold)) {
                        return BLANK;
                    }
                    return folds.foldGrid(fold, sheets.rowsOf(sheet), sheets.columnsOf(sheet), sheet);
                default:
                    return trimEdge(sheet);
            }
        }

        private int separate() {
            boolean isDouble = doubleTold.get(0) != 0;
            doubleTold.set(0, 0);
            return isDouble ? DOUBLE : DONE;
        }

        private int inkSide(int sheet, int side) {
            for (int row = 0; row < sheets.rowsOf(sheet); row++) {
                // A row without cells can be TORN, too, and no cell would tell it.
                if (sheets.isTorn(sheet, side, row)) {
                    return BLANK;
                }
                for (int column = 0; column < sheets.columnsOf(sheet); column++) {
                    int cell = sheets.cellSpot(sheet, side, row, column);
                    int letter = sheets.pageIn(cell) == 0 ? 0 : sheets.letterSeen(sheet, cell, 0, 0);
                    if (letter < 0) {
                        return letter;
                    }
                    tally.useInk(letter);
                }
            }
            return DONE;
        }

        private int trimEdge(int sheet) {
            int fold = sheets.toldFold(sheet);
            if (!folds.has(fold)) {
                return BLANK;
            }
            return marginNow.get(0) < folds.trimOf(fold) ? SIZE : DONE;
        }
    }
}
