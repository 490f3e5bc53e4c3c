/** Promises 1 to 14 and 52: a new object, jobs and pages. */
public final class JobsTest {
    private static final int OUTSIDE = -1, NONE = -2, FULL = -3;
    private static final int BLANK = -11, BEYOND = -12, SIZE = -13, LARGE = -14, COPY = -15;
    private static final int LOWEST = Integer.MIN_VALUE, HIGHEST = Integer.MAX_VALUE;

    private static final Due T = new Due();

    /** A job of 4 lines, 5 wide, with a page 1 of 3 rows (5 letters, 3 letters, MISSING) and a BLANK page 2. */
    private static FoldPress twoPages() {
        FoldPress x = new FoldPress();
        x.job(4, 5);
        x.page(0);
        x.page(0);
        x.rows(0, 1, 3);
        x.row(0, 1, 0, 5);
        x.row(0, 1, 1, 3);
        return x;
    }

    private static void write(FoldPress x, int page, int i, String letters) {
        for (int k = 0; k < letters.length(); k++) {
            T.due(8, x.letter(0, page, i, k, letters.charAt(k)), 1);
        }
    }

    private static void spells(int promise, FoldPress x, int page, int i, String letters) {
        T.due(promise, x.size(0, page, i), letters.length());
        for (int k = 0; k < letters.length(); k++) {
            T.due(promise, x.at(0, page, i, k), letters.charAt(k));
        }
    }

    private static void newObject() {
        FoldPress x = new FoldPress();
        for (int what = 0; what <= 11; what++) {
            T.due(1, x.told(what), 0);
        }
        T.due(1, x.told(12), 3);
        T.due(1, x.trace(0), NONE);
        T.due(1, x.moved(), 0);
        T.due(1, x.undo(), 0);
        T.due(1, x.about(0, 0), NONE);
        T.due(1, x.worth(0, 0), NONE);
        T.due(1, x.state(0, 0), NONE);
        T.due(1, x.good(0), NONE);
        T.due(1, x.step(), 0);
        T.due(1, x.told(2), 0);
        T.due(1, x.clear(), 0);
    }

    private static void job() {
        FoldPress x = new FoldPress();
        T.due(2, x.job(0, 1), OUTSIDE);
        T.due(2, x.job(9, 1), OUTSIDE);
        T.due(2, x.job(1, 0), OUTSIDE);
        T.due(2, x.job(1, 11), OUTSIDE);
        T.due(2, x.job(LOWEST, HIGHEST), OUTSIDE);
        T.due(2, x.told(7), 0);
        T.due(2, x.job(1, 1), 0);
        T.due(2, x.job(8, 10), 1);
        T.due(2, x.job(3, 7), 2);
        T.due(2, x.job(0, 7), OUTSIDE);
        T.due(2, x.job(3, 7), FULL);
        T.due(2, x.told(7), 3);
        T.due(2, x.told(0), 0);
        T.due(2, x.about(1, 0), 0);
        T.due(2, x.about(1, 1), 8);
        T.due(2, x.about(1, 2), 10);
    }

    private static void page() {
        FoldPress x = new FoldPress();
        T.due(3, x.page(0), NONE);
        x.job(2, 2);
        T.due(3, x.page(1), NONE);
        T.due(3, x.page(-1), NONE);
        for (int n = 1; n <= 24; n++) {
            T.due(3, x.page(0), n);
            T.due(3, x.size(0, n, -1), BLANK);
        }
        T.due(3, x.page(0), FULL);
        T.due(3, x.about(0, 0), 24);
        x.job(2, 2);
        T.due(3, x.page(1), 1);
        T.due(3, x.about(0, 0), 24);
    }

    private static void blank() {
        FoldPress x = twoPages();
        T.due(4, x.blank(1, 1), NONE);
        T.due(4, x.blank(0, 0), NONE);
        T.due(4, x.blank(0, 3), NONE);
        T.due(4, x.blank(HIGHEST, HIGHEST), NONE);
        T.due(4, x.blank(0, 2), 1);
        T.due(4, x.size(0, 1, -1), 3);
        T.due(4, x.blank(0, 1), 1);
        T.due(4, x.size(0, 1, -1), BLANK);
        T.due(4, x.at(0, 1, 0, 0), BLANK);
    }

    private static void rows() {
        FoldPress x = twoPages();
        T.due(5, x.rows(0, 3, 1), NONE);
        T.due(5, x.rows(1, 1, 99), NONE);
        T.due(5, x.told(0), 0);
        T.due(5, x.rows(0, 2, 9), LARGE);
        T.due(5, x.rows(0, 2, HIGHEST), LARGE);
        T.due(5, x.rows(0, 2, -1), SIZE);
        T.due(5, x.rows(0, 2, LOWEST), SIZE);
        T.due(5, x.told(0), 4);
        T.due(5, x.told(1), 3);
        T.due(5, x.size(0, 2, -1), BLANK);
        T.due(5, x.rows(0, 2, 8), 1);
        T.due(5, x.size(0, 2, -1), 8);
        T.due(5, x.size(0, 2, 7), BLANK);
        T.due(5, x.rows(0, 2, 0), 1);
        T.due(5, x.size(0, 2, -1), 0);
        T.due(5, x.size(0, 2, 0), BEYOND);
        T.due(5, x.rows(0, 1, 3), 1);
        T.due(5, x.size(0, 1, 0), BLANK);
    }

    private static void row() {
        FoldPress x = twoPages();
        T.due(6, x.row(0, 3, 0, 1), NONE);
        T.due(6, x.row(-1, 1, 0, 11), NONE);
        T.due(6, x.row(0, 2, 0, 11), LARGE);
        T.due(6, x.row(0, 2, 0, -1), SIZE);
        T.due(6, x.row(0, 2, 9, 1), BLANK);
        T.due(6, x.row(0, 1, 3, 1), BEYOND);
        T.due(6, x.row(0, 1, -1, 1), BEYOND);
        T.due(6, x.row(0, 1, HIGHEST, 1), BEYOND);
        T.due(6, x.row(0, 1, 3, 11), LARGE);
        T.due(6, x.row(0, 1, 3, LOWEST), SIZE);
        T.due(6, x.row(0, 1, 2, 10), 1);
        T.due(6, x.size(0, 1, 2), 10);
        T.due(6, x.at(0, 1, 2, 9), 32);
        write(x, 1, 0, "ABCDE");
        T.due(6, x.row(0, 1, 0, 4), 1);
        spells(6, x, 1, 0, "    ");
        T.due(6, x.row(0, 1, 0, 0), 1);
        T.due(6, x.size(0, 1, 0), 0);
        T.due(6, x.at(0, 1, 0, 0), BEYOND);
        T.due(6, x.size(0, 1, 1), 3);
    }

    private static void miss() {
        FoldPress x = twoPages();
        T.due(7, x.miss(0, 3, 0), NONE);
        T.due(7, x.miss(0, 2, 9), BLANK);
        T.due(7, x.miss(0, 1, 3), BEYOND);
        T.due(7, x.miss(0, 1, -1), BEYOND);
        T.due(7, x.miss(0, 1, 0), 1);
        T.due(7, x.size(0, 1, 0), BLANK);
        T.due(7, x.size(0, 1, 1), 3);
        T.due(7, x.size(0, 1, -1), 3);
        T.due(7, x.miss(0, 1, 2), 1);
    }

    private static void letter() {
        FoldPress x = twoPages();
        T.due(8, x.letter(0, 3, 0, 0, 31), NONE);
        T.due(8, x.letter(0, 1, 9, 9, 31), OUTSIDE);
        T.due(8, x.letter(0, 1, 0, 0, 127), OUTSIDE);
        T.due(8, x.told(0), 0);
        T.due(8, x.letter(0, 2, 9, 9, 65), BLANK);
        T.due(8, x.letter(0, 1, 3, 9, 65), BEYOND);
        T.due(8, x.letter(0, 1, -1, 9, 65), BEYOND);
        T.due(8, x.letter(0, 1, 2, 9, 65), BLANK);
        T.due(8, x.letter(0, 1, 1, 3, 65), BEYOND);
        T.due(8, x.letter(0, 1, 1, -1, 65), BEYOND);
        T.due(8, x.told(0), 6);
        T.due(8, x.letter(0, 1, 0, 4, 32), 1);
        T.due(8, x.letter(0, 1, 0, 4, 126), 1);
        T.due(8, x.at(0, 1, 0, 4), 126);
        T.due(8, x.at(0, 1, 0, 3), 32);
        T.due(8, x.at(0, 1, 1, 0), 32);
    }

    private static void at() {
        FoldPress x = twoPages();
        write(x, 1, 1, "xyz");
        T.due(9, x.at(0, 3, 0, 0), NONE);
        T.due(9, x.at(1, 1, 0, 0), NONE);
        T.due(9, x.at(0, 0, 0, 0), NONE);
        T.due(9, x.at(0, 2, 9, 9), BLANK);
        T.due(9, x.told(1), 1);
        T.due(9, x.at(0, 1, 3, 9), BEYOND);
        T.due(9, x.at(0, 1, LOWEST, 9), BEYOND);
        T.due(9, x.at(0, 1, 2, 9), BLANK);
        T.due(9, x.at(0, 1, 1, 3), BEYOND);
        T.due(9, x.at(0, 1, 1, HIGHEST), BEYOND);
        T.due(9, x.told(0), 6);
        spells(9, x, 1, 1, "xyz");
    }

    private static void size() {
        FoldPress x = twoPages();
        T.due(10, x.size(0, 3, -1), NONE);
        T.due(10, x.size(0, 2, -1), BLANK);
        T.due(10, x.size(0, 2, 9), BLANK);
        T.due(10, x.size(0, 1, -1), 3);
        T.due(10, x.size(0, 1, 0), 5);
        T.due(10, x.size(0, 1, 1), 3);
        T.due(10, x.size(0, 1, 2), BLANK);
        T.due(10, x.size(0, 1, 3), BEYOND);
        T.due(10, x.size(0, 1, -2), BEYOND);
        T.due(10, x.size(0, 1, LOWEST), BEYOND);
    }

    private static void move() {
        FoldPress x = twoPages();
        x.row(0, 1, 2, 4);
        write(x, 1, 0, "ABCDE");
        write(x, 1, 1, "FGH");
        write(x, 1, 2, "IJKL");
        x.rows(0, 2, 3);
        x.row(0, 2, 0, 4);
        x.row(0, 2, 1, 4);
        T.due(11, x.move(1, 1, 0, 2, 0, 1, 1), NONE);
        T.due(11, x.move(0, 3, 0, 2, 0, 1, 1), NONE);
        T.due(11, x.move(0, 1, 0, 0, 0, 1, 1), NONE);
        T.due(11, x.move(0, 1, 0, 3, 0, 9, 1), NONE);
        T.due(11, x.move(0, 1, 0, 2, 0, -1, 1), OUTSIDE);
        T.due(11, x.move(0, 1, 0, 2, 0, 9, 1), OUTSIDE);
        T.due(11, x.told(0), 0);
        T.due(11, x.move(0, 1, 1, 2, 0, 2, 3), 1);
        T.due(12, x.moved(), 2);
        spells(11, x, 2, 0, "FGH ");
        spells(11, x, 2, 1, "IJK ");
        // The third target row is MISSING; two rows have come by then.
        T.due(11, x.move(0, 1, 0, 2, 0, 3, 2), COPY);
        T.due(12, x.moved(), 2);
        spells(11, x, 2, 0, "ABH ");
        spells(11, x, 2, 1, "FGK ");
        T.due(11, x.move(0, 1, 0, 2, 0, 1, 5), COPY);
        T.due(11, x.move(0, 1, 1, 2, 0, 1, 4), COPY);
        T.due(11, x.move(0, 1, 0, 2, 0, 1, -1), COPY);
        T.due(11, x.move(0, 1, 3, 2, 0, 1, 0), COPY);
        T.due(11, x.move(0, 1, -1, 2, 0, 1, 0), COPY);
        T.due(11, x.move(0, 1, 0, 2, HIGHEST, 8, 0), COPY);
        T.due(11, x.move(0, 1, 0, 2, 2, 1, 0), COPY);
        T.due(11, x.move(0, 2, 2, 1, 0, 1, 0), COPY);
        T.due(12, x.moved(), 0);
        T.due(11, x.told(0), 9);
        T.due(11, x.move(0, 1, 0, 2, 0, 1, 0), 1);
        T.due(12, x.moved(), 1);
        spells(11, x, 2, 0, "ABH ");
    }

    private static void moveOfNoRowsOrOnePage() {
        FoldPress x = twoPages();
        T.due(11, x.move(0, 2, LOWEST, 1, HIGHEST, 0, -5), 1);
        T.due(12, x.moved(), 0);
        T.due(11, x.move(0, 2, 0, 1, 0, 1, 0), COPY);
        T.due(11, x.move(0, 1, 0, 2, 0, 1, 0), COPY);
        x.row(0, 1, 2, 5);
        write(x, 1, 0, "ABCDE");
        write(x, 1, 1, "FGH");
        // Row 0 comes to row 1, and that goes on to row 2.
        T.due(11, x.move(0, 1, 0, 1, 1, 2, 3), 1);
        spells(11, x, 1, 1, "ABC");
        spells(11, x, 1, 2, "ABC  ");
        T.due(11, x.move(0, 1, 0, 1, 0, 1, 5), 1);
        spells(11, x, 1, 0, "ABCDE");
    }

    private static void moved() {
        FoldPress x = twoPages();
        T.due(12, x.moved(), 0);
        T.due(11, x.move(0, 1, 0, 1, 1, 1, 3), 1);
        T.due(12, x.moved(), 1);
        T.due(11, x.move(0, 9, 0, 1, 1, 1, 3), NONE);
        T.due(11, x.move(0, 1, 0, 1, 1, 9, 3), OUTSIDE);
        T.due(12, x.moved(), 1);
        T.due(49, x.undo(), 1);
        T.due(12, x.moved(), 1);
        x.sheet(0, 3, 2);
        T.due(26, x.shift(0, 0, 0, 0, 1, 0, 3, 2), 1);
        T.due(12, x.moved(), 3);
        T.due(26, x.shift(0, 0, 1, 0, 1, 0, 3, 2), COPY);
        T.due(12, x.moved(), 2);
        T.due(11, x.move(0, 1, 0, 1, 1, 0, 0), 1);
        T.due(12, x.moved(), 0);
    }

    private static void cut() {
        FoldPress x = twoPages();
        write(x, 1, 0, "ABCDE");
        write(x, 1, 1, "FGH");
        x.job(8, 8);
        T.due(13, x.cut(2, 1, 1), NONE);
        T.due(13, x.cut(-1, 99, 99), NONE);
        T.due(13, x.cut(0, 9, 0), LARGE);
        T.due(13, x.cut(0, 0, 11), LARGE);
        T.due(13, x.cut(0, -1, 11), LARGE);
        T.due(13, x.cut(0, HIGHEST, LOWEST), LARGE);
        T.due(13, x.cut(0, -1, 0), SIZE);
        T.due(13, x.cut(0, 0, -1), SIZE);
        T.due(13, x.about(0, 1), 4);
        T.due(13, x.about(0, 2), 5);
        spells(13, x, 1, 0, "ABCDE");
        T.due(13, x.cut(0, 8, 10), 1);
        T.due(13, x.about(0, 1), 8);
        T.due(13, x.about(0, 2), 10);
        T.due(13, x.size(0, 1, -1), 3);
        T.due(13, x.size(0, 1, 0), 5);
        T.due(13, x.cut(0, 3, 4), 1);
        spells(13, x, 1, 0, "ABCD");
        spells(13, x, 1, 1, "FGH");
        T.due(13, x.size(0, 1, 2), BLANK);
        T.due(13, x.size(0, 2, -1), BLANK);
        T.due(13, x.at(0, 1, 0, 4), BEYOND);
        T.due(13, x.cut(0, 1, 2), 1);
        T.due(13, x.size(0, 1, -1), 1);
        T.due(13, x.size(0, 1, 1), BEYOND);
        spells(13, x, 1, 0, "AB");
        T.due(13, x.cut(0, 0, 0), 1);
        T.due(13, x.about(0, 1), 0);
        T.due(13, x.about(0, 2), 0);
        T.due(13, x.size(0, 1, -1), 0);
        T.due(13, x.about(1, 1), 8);
        T.due(13, x.rows(0, 1, 8), 1);
    }

    /** Each page is cut, the last one too, and each of its rows. */
    private static void cutOfManyPages() {
        FoldPress x = new FoldPress();
        for (int job = 0; job < 3; job++) {
            x.job(8, 10);
            for (int page = 1; page <= 3; page++) {
                x.page(job);
                x.rows(job, page, 8);
                for (int i = 0; i < 8; i++) {
                    x.row(job, page, i, 10);
                }
            }
        }
        T.due(13, x.cut(1, 6, 7), 1);
        for (int page = 1; page <= 3; page++) {
            T.due(13, x.size(0, page, -1), 8);
            T.due(13, x.size(1, page, -1), 6);
            T.due(13, x.size(2, page, -1), 8);
            for (int i = 0; i < 6; i++) {
                T.due(13, x.size(0, page, i), 10);
                T.due(13, x.size(1, page, i), 7);
                T.due(13, x.size(2, page, i), 10);
            }
            T.due(13, x.size(1, page, 6), BEYOND);
            T.due(13, x.size(0, page, 7), 10);
        }
    }

    /** No page lies where another one does: the last letter of each first, last and second last page is its own. */
    private static void pagesAreApart() {
        FoldPress x = new FoldPress();
        // From the last one back, so that a page which reached too far would spoil what is there already.
        int[] pages = {24, 23, 1};
        for (int job = 0; job < 3; job++) {
            x.job(8, 10);
            for (int page = 1; page <= 24; page++) {
                x.page(job);
            }
        }
        for (int job = 2; job >= 0; job--) {
            for (int page : pages) {
                x.rows(job, page, 8);
                x.row(job, page, 7, 10);
                x.row(job, page, 0, 10);
                x.letter(job, page, 0, 0, 33 + job + page);
                x.letter(job, page, 7, 9, 63 + job + page);
            }
        }
        for (int job = 0; job < 3; job++) {
            for (int page : pages) {
                T.due(9, x.at(job, page, 0, 0), 33 + job + page);
                T.due(9, x.at(job, page, 0, 9), 32);
                T.due(9, x.at(job, page, 7, 0), 32);
                T.due(9, x.at(job, page, 7, 9), 63 + job + page);
                T.due(10, x.size(job, page, 1), BLANK);
            }
            T.due(10, x.size(job, 2, -1), BLANK);
        }
    }

    /** What cut() and join() do to a whole job ends with it. */
    private static void jobsAreApart() {
        FoldPress x = new FoldPress();
        for (int job = 0; job < 2; job++) {
            x.job(8, 10);
            x.page(job);
            x.rows(job, 1, 8);
            x.row(job, 1, 0, 10);
            x.row(job, 1, 7, 10);
            x.letter(job, 1, 0, 0, 'a' + job);
            x.letter(job, 1, 7, 0, 'm' + job);
        }
        T.due(14, x.join(0, 0), 2);
        T.due(14, x.join(0, 0), 4);
        T.due(14, x.join(0, 0), 8);
        T.due(14, x.join(0, 0), 16);
        for (int n = 17; n <= 24; n++) {
            T.due(14, x.join(0, 1), n);
        }
        T.due(14, x.at(1, 1, 0, 0), 'b');
        T.due(14, x.size(1, 1, 0), 10);
        T.due(14, x.at(0, 16, 0, 0), 'a');
        T.due(14, x.at(0, 24, 0, 0), 'b');
        T.due(14, x.at(0, 24, 7, 0), 'n');
        T.due(13, x.cut(0, 8, 5), 1);
        T.due(13, x.size(0, 24, 7), 5);
        T.due(13, x.size(1, 1, 0), 10);
        T.due(13, x.cut(1, 3, 2), 1);
        T.due(13, x.size(0, 24, -1), 8);
        T.due(13, x.size(1, 1, -1), 3);
        T.due(13, x.size(1, 1, 0), 2);
    }

    private static void join() {
        FoldPress x = twoPages();
        write(x, 1, 0, "ABCDE");
        x.job(1, 1);
        T.due(14, x.join(0, 2), NONE);
        T.due(14, x.join(-1, 0), NONE);
        T.due(14, x.join(1, 1), 0);
        T.due(14, x.join(0, 1), 2);
        T.due(14, x.join(1, 0), 2);
        T.due(14, x.join(1, 0), 4);
        T.due(14, x.about(0, 0), 2);
        T.due(14, x.about(1, 1), 1);
        for (int page = 1; page <= 3; page += 2) {
            T.due(14, x.size(1, page, -1), 3);
            T.due(14, x.size(1, page, 0), 5);
            T.due(14, x.at(1, page, 0, 4), 'E');
            T.due(14, x.size(1, page, 2), BLANK);
            T.due(14, x.size(1, page + 1, -1), BLANK);
        }
        T.due(8, x.letter(1, 1, 0, 4, 'z'), 1);
        T.due(14, x.at(0, 1, 0, 4), 'E');
        T.due(14, x.at(1, 3, 0, 4), 'E');
        T.due(14, x.join(1, 1), 8);
        T.due(14, x.at(1, 5, 0, 4), 'z');
        T.due(14, x.at(1, 7, 0, 4), 'E');
        T.due(14, x.join(1, 1), 16);
        T.due(14, x.join(1, 1), FULL);
        T.due(14, x.about(1, 0), 16);
        for (int n = 18; n <= 24; n += 2) {
            T.due(14, x.join(1, 0), n);
        }
        T.due(14, x.join(1, 0), FULL);
        T.due(14, x.join(0, 1), FULL);
        T.due(14, x.about(0, 0), 2);
    }

    private static void about() {
        FoldPress x = twoPages();
        T.due(52, x.about(0, 0), 2);
        T.due(52, x.about(0, 1), 4);
        T.due(52, x.about(0, 2), 5);
        T.due(52, x.about(0, 3), OUTSIDE);
        T.due(52, x.about(0, -1), OUTSIDE);
        T.due(52, x.about(1, 9), NONE);
        T.due(52, x.about(-1, 0), NONE);
    }

    public static void main(String[] args) {
        newObject();
        job();
        page();
        blank();
        rows();
        row();
        miss();
        letter();
        at();
        size();
        move();
        moveOfNoRowsOrOnePage();
        moved();
        cut();
        cutOfManyPages();
        pagesAreApart();
        jobsAreApart();
        join();
        about();
        T.end();
    }
}
