/** Promises 30 to 38: signatures and the book. */
public final class BookTest {
    private static final int OUTSIDE = -1, NONE = -2, FULL = -3, BUSY = -5;
    private static final int BLANK = -11, BEYOND = -12, UNFIT = -17, OPEN = -18;
    private static final int HALF = 1, ROWS = 0, COLUMNS = 1;
    private static final int BEHIND = 0, INSIDE = 1;

    private static final Due T = new Due();

    /** Job 0 with 24 pages, job 1 with 3; fold 0 halves the columns, 1 the rows, 2 does both, 3 nothing. */
    private static FoldPress press() {
        FoldPress x = new FoldPress();
        x.job(2, 3);
        x.job(2, 3);
        x.page(1);
        x.page(1);
        x.page(1);
        for (int n = 0; n < 8; n++) {
            x.join(0, 1);
        }
        x.fold(HALF, COLUMNS);
        x.fold(HALF, ROWS);
        x.cross(0, 1);
        x.fold(0, 0);
        return x;
    }

    private static void signature() {
        FoldPress x = press();
        T.due(30, x.signature(2), OUTSIDE);
        T.due(30, x.signature(-1), OUTSIDE);
        for (int n = 0; n < 4; n++) {
            T.due(30, x.signature(n % 2), n);
        }
        T.due(30, x.signature(2), OUTSIDE);
        T.due(30, x.signature(0), FULL);
        T.due(30, x.told(10), 4);
    }

    private static void gather() {
        FoldPress x = press();
        T.due(31, x.gather(0, 0), NONE);
        x.signature(BEHIND);
        T.due(31, x.gather(0, 0), NONE);
        for (int n = 0; n < 6; n++) {
            x.sheet(0, 1, 2);
        }
        x.signature(INSIDE);
        T.due(31, x.gather(2, 0), NONE);
        T.due(31, x.gather(-1, 0), NONE);
        T.due(31, x.gather(0, 6), NONE);
        for (int n = 0; n < 4; n++) {
            T.due(31, x.gather(0, 3 - n), n + 1);
        }
        T.due(31, x.gather(0, 3), BUSY);
        T.due(31, x.gather(1, 3), BUSY);
        T.due(31, x.gather(0, 4), FULL);
        T.due(31, x.gather(1, 4), 1);
        T.due(31, x.leaf(0, 0, 0, 0), 3);
        T.due(31, x.leaf(0, 0, 15, 0), 0);
        T.due(31, x.leaf(0, 0, 16, 0), BEYOND);
        T.due(31, x.leaf(1, 0, 0, 0), 4);
    }

    /** Sheets 0 (4 faces) and 1 (4 faces of job 1) in signature 0, of a way. */
    private static FoldPress twoSheets(int way) {
        FoldPress x = press();
        x.sheet(0, 1, 2);
        x.sheet(1, 1, 2);
        x.signature(way);
        x.gather(0, 0);
        x.gather(0, 1);
        return x;
    }

    private static void bindBehind() {
        FoldPress x = twoSheets(BEHIND);
        T.due(32, x.bind(0, 0, 1), 8);
        for (int k = 0; k < 4; k++) {
            T.due(32, x.read(0, 0, k), 1 + k);
            // Job 1 has 3 pages only.
            T.due(32, x.read(1, 0, k), 0);
        }
        T.due(32, x.cell(0, 1, 0, 1, 0), 1);
        T.due(32, x.cell(0, 0, 0, 1, 0), 2);
        T.due(32, x.cell(0, 0, 0, 0, 0), 3);
        T.due(32, x.cell(0, 1, 0, 0, 0), 4);
    }

    private static void bindInside() {
        FoldPress x = twoSheets(INSIDE);
        T.due(32, x.bind(0, 0, 1), 8);
        int[] outer = {1, 2, 7, 8};
        int[] inner = {3, 0, 0, 0};
        for (int k = 0; k < 4; k++) {
            T.due(32, x.read(0, 0, k), outer[k]);
            T.due(32, x.read(1, 0, k), inner[k]);
        }
        T.due(32, x.bind(0, 0, 24), 8);
        T.due(32, x.read(0, 0, 0), 24);
        T.due(32, x.read(0, 0, 1), 0);
        T.due(32, x.read(1, 0, 0), 0);
    }

    private static void bindUp() {
        FoldPress x = press();
        x.sheet(0, 2, 2);
        x.signature(INSIDE);
        x.gather(0, 0);
        T.due(32, x.bind(0, 2, 20), 8);
        T.due(32, x.cell(0, 1, 1, 0, 0), 20);
        T.due(32, x.cell(0, 1, 1, 0, 1), 1);
        T.due(32, x.cell(0, 1, 0, 0, 0), 0);
        T.due(32, x.cell(0, 1, 0, 0, 1), 0);
        T.due(32, x.cell(0, 1, 1, 1, 0), 23);
        T.due(32, x.cell(0, 1, 1, 1, 1), 1);
    }

    private static void bindRefusals() {
        FoldPress x = press();
        T.due(32, x.bind(0, 0, 1), NONE);
        x.signature(BEHIND);
        T.due(32, x.bind(0, 4, 0), NONE);
        T.due(32, x.bind(0, 0, 0), OUTSIDE);
        T.due(32, x.bind(0, 0, 25), OUTSIDE);
        T.due(32, x.bind(0, 0, 1), 0);
        T.due(32, x.told(6), 0);
        x.sheet(0, 1, 2);
        x.sheet(0, 1, 4);
        x.sheet(0, 1, 3);
        x.gather(0, 0);
        x.gather(0, 1);
        x.gather(0, 2);
        // The second sheet stays OPEN, ahead of the third, which is UNFIT; nothing has been laid by then.
        T.due(32, x.bind(0, 0, 1), OPEN);
        T.due(32, x.told(6), 2);
        T.due(32, x.read(0, 0, 0), 0);
        T.due(32, x.bind(0, 1, 1), UNFIT);
        T.due(32, x.told(6), 4);
    }

    private static void bindOnTorn() {
        FoldPress x = twoSheets(INSIDE);
        x.tear(1, 0, 0);
        // Signature faces 2 and 3 are faces 0 (back) and 1 (front) of sheet 1.
        T.due(32, x.bind(0, 0, 1), BLANK);
        T.due(32, x.read(0, 0, 1), 2);
        T.due(32, x.read(1, 0, 0), 3);
        T.due(32, x.read(0, 0, 2), 0);
        T.due(49, x.undo(), 1);
        T.due(32, x.read(1, 0, 0), 0);
        T.due(32, x.read(0, 0, 1), 0);
    }

    private static void leaf() {
        FoldPress x = press();
        int twice = x.cross(0, 0);
        x.sheet(0, 1, 4);
        x.sheet(0, 1, 4);
        x.sheet(0, 1, 4);
        x.signature(INSIDE);
        x.signature(BEHIND);
        T.due(33, x.leaf(0, twice, 0, 0), BEYOND);
        x.gather(0, 1);
        x.gather(0, 0);
        x.gather(1, 2);
        T.due(33, x.leaf(2, twice, 0, 9), NONE);
        T.due(33, x.leaf(0, 9, 0, 0), NONE);
        T.due(33, x.leaf(0, twice, 0, 2), OUTSIDE);
        T.due(33, x.leaf(0, twice, 0, -1), OUTSIDE);
        T.due(33, x.leaf(0, 1, 99, 0), UNFIT);
        T.due(33, x.leaf(0, 0, 99, 0), OPEN);
        T.due(33, x.leaf(0, twice, 16, 0), BEYOND);
        T.due(33, x.leaf(0, twice, -1, 0), BEYOND);
        T.due(33, x.leaf(0, twice, Integer.MIN_VALUE, 1), BEYOND);
        for (int k = 0; k < 16; k++) {
            T.due(33, x.leaf(0, twice, k, 0), k < 4 || k >= 12 ? 1 : 0);
            T.due(33, x.leaf(0, twice, k, 1), k < 4 ? k : k < 12 ? k - 4 : k - 8);
        }
        T.due(33, x.leaf(1, twice, 7, 0), 2);
        T.due(33, x.leaf(1, twice, 7, 1), 7);
        T.due(33, x.leaf(1, twice, 8, 1), BEYOND);
    }

    /** The least halves that there are: of one face each. */
    private static void leafOfSingleLeaves() {
        FoldPress x = press();
        x.sheet(0, 1, 1);
        x.sheet(0, 1, 1);
        x.signature(INSIDE);
        x.gather(0, 1);
        x.gather(0, 0);
        int[] sheets = {1, 0, 0, 1};
        int[] faces = {0, 0, 1, 1};
        for (int k = 0; k < 4; k++) {
            T.due(33, x.leaf(0, 3, k, 0), sheets[k]);
            T.due(33, x.leaf(0, 3, k, 1), faces[k]);
        }
    }

    /** Every signature has room for its own sheets. */
    private static void signaturesAreApart() {
        FoldPress x = press();
        for (int n = 0; n < 8; n++) {
            x.sheet(0, 1, 2);
        }
        for (int n = 0; n < 4; n++) {
            x.signature(BEHIND);
        }
        for (int n = 0; n < 4; n++) {
            T.due(31, x.gather(3, n), n + 1);
        }
        T.due(31, x.gather(2, 4), 1);
        T.due(31, x.gather(1, 5), 1);
        for (int k = 0; k < 16; k++) {
            T.due(33, x.leaf(3, 0, k, 0), k / 4);
            T.due(33, x.leaf(3, 0, k, 1), k % 4);
        }
        T.due(33, x.leaf(2, 0, 3, 0), 4);
        T.due(33, x.leaf(1, 0, 3, 0), 5);
        T.due(33, x.leaf(0, 0, 0, 0), BEYOND);
    }

    private static void creep() {
        FoldPress x = twoSheets(INSIDE);
        x.signature(BEHIND);
        x.sheet(0, 1, 2);
        x.sheet(0, 1, 2);
        x.gather(1, 2);
        x.gather(1, 3);
        T.due(34, x.creep(2, 0, 0), NONE);
        T.due(34, x.creep(0, 9, 9), NONE);
        T.due(34, x.creep(0, 0, 2), BEYOND);
        T.due(34, x.creep(0, 0, -1), BEYOND);
        T.due(34, x.creep(1, 0, 2), BEYOND);
        T.due(34, x.creep(0, 0, 0), 0);
        T.due(34, x.creep(0, 0, 1), 2);
        T.due(34, x.creep(0, 2, 1), 4);
        T.due(34, x.creep(0, 3, 1), 1);
        T.due(34, x.creep(1, 2, 1), 0);
        T.due(34, x.told(6), 0);
        T.due(34, x.told(0), 3);
        x.sheet(0, 1, 2);
        x.gather(0, 4);
        T.due(34, x.creep(0, 0, 2), 4);
    }

    private static void add() {
        FoldPress x = press();
        T.due(35, x.add(0), NONE);
        for (int n = 0; n < 4; n++) {
            x.signature(BEHIND);
        }
        T.due(35, x.add(4), NONE);
        T.due(35, x.add(2), 1);
        T.due(35, x.add(2), BUSY);
        T.due(35, x.add(0), 2);
        T.due(35, x.add(2), BUSY);
        T.due(35, x.add(3), 3);
        T.due(35, x.add(1), 4);
        T.due(35, x.told(11), 4);
    }

    private static void cover() {
        FoldPress x = press();
        T.due(36, x.cover(0), NONE);
        T.due(36, x.cover(-1), 1);
        x.sheet(0, 1, 2);
        x.lay(0, 0, 7);
        T.due(36, x.cover(-2), NONE);
        T.due(36, x.cover(1), NONE);
        T.due(36, x.wrap(0, 0), BLANK);
        T.due(36, x.cover(0), 1);
        T.due(36, x.wrap(0, 0), 7);
        T.due(36, x.cover(-1), 1);
        T.due(36, x.wrap(0, 0), BLANK);
    }

    private static void pageAt() {
        FoldPress x = twoSheets(INSIDE);
        x.sheet(0, 1, 2);
        x.signature(BEHIND);
        x.signature(BEHIND);
        x.gather(1, 2);
        T.due(37, x.pageAt(0, 0), BEYOND);
        T.due(37, x.told(6), 0);
        x.add(1);
        x.add(2);
        x.add(0);
        x.bind(0, 0, 1);
        x.bind(1, 0, 11);
        T.due(37, x.pageAt(4, 0), NONE);
        T.due(37, x.pageAt(-1, 0), NONE);
        int[] pages = {11, 12, 13, 14, 1, 2, 3, 0, 0, 0, 7, 8};
        for (int k = 0; k < pages.length; k++) {
            T.due(37, x.pageAt(0, k), pages[k]);
        }
        T.due(37, x.pageAt(0, pages.length), BEYOND);
        T.due(37, x.pageAt(0, -1), BEYOND);
        T.due(37, x.pageAt(0, Integer.MIN_VALUE), BEYOND);
        T.due(37, x.pageAt(0, Integer.MAX_VALUE), BEYOND);
        T.due(37, x.pageAt(1, 0), UNFIT);
        T.due(37, x.pageAt(3, 0), OPEN);
        int traced = x.told(6);
        T.due(37, x.pageAt(0, 0), 11);
        T.due(37, x.told(6), traced + 3);
        x.tear(0, 0, 0);
        // Faces of sheet 0: back, front, front, back.
        T.due(37, x.pageAt(0, 4), 1);
        T.due(37, x.pageAt(0, 5), BLANK);
        T.due(37, x.pageAt(0, 12), BEYOND);
    }

    private static void pageAtOfLargeSheets() {
        FoldPress x = press();
        for (int n = 0; n < 3; n++) {
            x.sheet(0, 2, 2);
            x.signature(BEHIND);
            x.gather(n, n);
            x.add(n);
            x.bind(n, 2, 1 + 8 * n);
        }
        for (int k = 0; k < 24; k++) {
            T.due(37, x.pageAt(2, k), 1 + k);
        }
        T.due(37, x.pageAt(2, 24), BEYOND);
    }

    private static void wrap() {
        FoldPress x = press();
        T.due(38, x.wrap(4, 0), NONE);
        T.due(38, x.wrap(1, 9), BLANK);
        T.due(38, x.told(6), 0);
        x.sheet(0, 1, 2);
        x.sheet(0, 1, 2);
        x.lay(1, 0, 5);
        x.cover(1);
        T.due(38, x.wrap(1, 9), UNFIT);
        T.due(38, x.wrap(3, 9), OPEN);
        T.due(38, x.wrap(0, 4), BEYOND);
        T.due(38, x.wrap(0, -1), BEYOND);
        for (int k = 0; k < 4; k++) {
            T.due(38, x.wrap(0, k), 5 + k);
        }
        x.tear(1, 1, 0);
        T.due(38, x.wrap(0, 0), BLANK);
        T.due(38, x.wrap(0, 1), 6);
    }

    public static void main(String[] args) {
        signature();
        gather();
        bindBehind();
        bindInside();
        bindUp();
        bindRefusals();
        bindOnTorn();
        leaf();
        leafOfSingleLeaves();
        signaturesAreApart();
        creep();
        add();
        cover();
        pageAt();
        pageAtOfLargeSheets();
        wrap();
        T.end();
    }
}
