/** Promises 15 to 21 and 51: folds, their faces, and the trace that they leave. */
public final class FoldsTest {
    private static final int OUTSIDE = -1, NONE = -2, FULL = -3;
    private static final int BEYOND = -12, SIZE = -13, LARGE = -14, KIND = -16, UNFIT = -17, OPEN = -18;
    private static final int LOWEST = Integer.MIN_VALUE, HIGHEST = Integer.MAX_VALUE;
    // Kinds of a fold, and axes.
    private static final int FLAT = 0, HALF = 1, THIRD = 2, GATE = 3, SHUT = 4, ROWS = 0, COLUMNS = 1;

    private static final Due T = new Due();

    /** A fold's faces as "side row column up", from above down. */
    private static void shows(FoldPress x, int fold, int rows, int columns, String... faces) {
        T.due(21, x.faces(fold, rows, columns), faces.length);
        for (int k = 0; k < faces.length; k++) {
            for (int what = 0; what < 4; what++) {
                T.due(20, x.face(fold, rows, columns, k, what), faces[k].charAt(what) - '0');
            }
        }
        T.due(20, x.face(fold, rows, columns, faces.length, 0), BEYOND);
    }

    /** The latest numbers of the trace, the oldest of them first. */
    private static void traces(FoldPress x, int... numbers) {
        for (int n = 0; n < numbers.length; n++) {
            T.due(51, x.trace(numbers.length - 1 - n), numbers[n]);
        }
    }

    private static void fold() {
        FoldPress x = new FoldPress();
        T.due(15, x.fold(-1, 0), OUTSIDE);
        T.due(15, x.fold(5, 0), OUTSIDE);
        T.due(15, x.fold(0, -1), OUTSIDE);
        T.due(15, x.fold(0, 2), OUTSIDE);
        for (int n = 0; n < 16; n++) {
            T.due(15, x.fold(n % 5, n % 2), n);
        }
        T.due(15, x.fold(5, 0), OUTSIDE);
        T.due(15, x.fold(0, 0), FULL);
        T.due(15, x.told(8), 16);
        T.due(15, x.told(6), 0);
    }

    private static void cross() {
        FoldPress x = new FoldPress();
        x.fold(HALF, COLUMNS);
        T.due(16, x.cross(0, 1), NONE);
        T.due(16, x.cross(1, 0), NONE);
        T.due(16, x.cross(-1, 0), NONE);
        T.due(16, x.cross(0, 0), 1);
        T.due(16, x.cross(1, 1), 2);
        T.due(16, x.cross(2, 1), 3);
        T.due(16, x.cross(3, 1), 4);
        T.due(16, x.worth(4, 1), 8);
        T.due(16, x.cross(4, 0), FULL);
        T.due(16, x.cross(3, 3), FULL);
        T.due(16, x.cross(0, 3), 5);
        T.due(16, x.cross(5, 0), 6);
        T.due(16, x.cross(6, 0), FULL);
        for (int n = 7; n < 16; n++) {
            T.due(16, x.cross(0, 0), n);
        }
        T.due(16, x.cross(0, 0), FULL);
        T.due(16, x.cross(0, 16), NONE);
        T.due(16, x.told(8), 16);
        T.due(16, x.told(0), 0);
    }

    private static void lips() {
        FoldPress x = new FoldPress();
        T.due(17, x.lips(0), NONE);
        for (int kind = FLAT; kind <= SHUT; kind++) {
            x.fold(kind, kind % 2);
        }
        x.cross(GATE, SHUT);
        T.due(17, x.lips(FLAT), KIND);
        T.due(17, x.lips(HALF), KIND);
        T.due(17, x.lips(THIRD), KIND);
        T.due(17, x.lips(GATE), 2);
        T.due(17, x.lips(SHUT), 3);
        T.due(17, x.lips(5), KIND);
        T.due(17, x.lips(6), NONE);
        T.due(17, x.lips(-1), NONE);
        T.due(17, x.told(0), 4);
        T.due(17, x.told(1), 6);
        T.due(17, x.told(6), 0);
    }

    private static void inner() {
        FoldPress x = new FoldPress();
        T.due(18, x.inner(0, 0), NONE);
        x.fold(HALF, 0);
        x.fold(GATE, 0);
        x.cross(1, 0);
        x.cross(2, 1);
        T.due(18, x.inner(2, 0), 1);
        T.due(18, x.inner(2, 1), 0);
        T.due(18, x.inner(3, 0), 2);
        T.due(18, x.inner(3, 1), 1);
        T.due(18, x.inner(0, 0), KIND);
        T.due(18, x.inner(1, 1), KIND);
        T.due(18, x.inner(0, 2), OUTSIDE);
        T.due(18, x.inner(3, -1), OUTSIDE);
        T.due(18, x.inner(4, 9), NONE);
        T.due(18, x.told(0), 2);
    }

    private static void worth() {
        FoldPress x = new FoldPress();
        T.due(19, x.worth(0, 0), NONE);
        int[] thick = {1, 2, 3, 2, 4};
        int[] trim = {0, 1, 1, 2, 3};
        for (int kind = FLAT; kind <= SHUT; kind++) {
            x.fold(kind, 0);
            T.due(19, x.worth(kind, 0), thick[kind]);
            T.due(19, x.worth(kind, 1), trim[kind]);
        }
        x.cross(THIRD, SHUT);
        T.due(19, x.worth(5, 0), 12);
        T.due(19, x.worth(5, 1), 4);
        x.cross(5, GATE);
        T.due(19, x.worth(6, 0), 24);
        T.due(19, x.worth(6, 1), 6);
        x.cross(SHUT, SHUT);
        x.cross(7, 7);
        x.cross(8, 8);
        T.due(19, x.worth(9, 0), 65536);
        T.due(19, x.worth(9, 1), 24);
        T.due(19, x.worth(9, 2), OUTSIDE);
        T.due(19, x.worth(9, -1), OUTSIDE);
        T.due(19, x.worth(10, 2), NONE);
    }

    private static void plainFaces() {
        FoldPress x = new FoldPress();
        int flat = x.fold(FLAT, ROWS);
        int half = x.fold(HALF, COLUMNS);
        int halfRows = x.fold(HALF, ROWS);
        int third = x.fold(THIRD, COLUMNS);
        int thirdRows = x.fold(THIRD, ROWS);
        int shut = x.fold(SHUT, COLUMNS);
        int shutRows = x.fold(SHUT, ROWS);
        shows(x, flat, 1, 1, "0000", "1000");
        shows(x, half, 1, 2, "1010", "0010", "0000", "1000");
        shows(x, halfRows, 2, 1, "1101", "0101", "0000", "1000");
        shows(x, third, 1, 3, "1000", "0000", "1020", "0020", "0010", "1010");
        shows(x, thirdRows, 3, 1, "1001", "0001", "1201", "0201", "0100", "1100");
        // GATE: 0 turned on 1, 3 turned on 2; then that second pile turned on the first.
        shows(x, shut, 1, 4, "1020", "0020", "0030", "1030", "1000", "0000", "0010", "1010");
        shows(x, shutRows, 4, 1, "1201", "0201", "0300", "1300", "1001", "0001", "0100", "1100");
    }

    private static void crossedFaces() {
        FoldPress x = new FoldPress();
        int half = x.fold(HALF, COLUMNS);
        int halfRows = x.fold(HALF, ROWS);
        int gate = x.fold(GATE, COLUMNS);
        int columnsFirst = x.cross(half, halfRows);
        int rowsFirst = x.cross(halfRows, half);
        shows(x, columnsFirst, 2, 2, "1101", "0101", "0111", "1111", "1010", "0010", "0000", "1000");
        shows(x, rowsFirst, 2, 2, "1010", "0010", "0111", "1111", "1101", "0101", "0000", "1000");
        // Two halves of four: 3 on 0 and 2 on 1; then the pile 2, 1 turned on the pile 3, 0.
        int twice = x.cross(half, half);
        shows(x, twice, 1, 4, "1010", "0010", "0020", "1020", "1030", "0030", "0000", "1000");
        // GATE then HALF is SHUT.
        int gateHalf = x.cross(gate, half);
        shows(x, gateHalf, 1, 4, "1020", "0020", "0030", "1030", "1000", "0000", "0010", "1010");
    }

    /** In each line of piles, and of the grid's own places alone. */
    private static void severalLines() {
        FoldPress x = new FoldPress();
        int third = x.fold(THIRD, COLUMNS);
        int thirdRows = x.fold(THIRD, ROWS);
        int half = x.fold(HALF, COLUMNS);
        int halfRows = x.fold(HALF, ROWS);
        shows(x, x.cross(third, halfRows), 2, 3, "1111", "0111", "0121", "1121", "0101", "1101", "1000", "0000",
            "1020", "0020", "0010", "1010");
        shows(x, x.cross(half, thirdRows), 3, 2, "1001", "0001", "0011", "1011", "1201", "0201", "0211", "1211",
            "1110", "0110", "0100", "1100");
    }

    private static void wideThird() {
        FoldPress x = new FoldPress();
        int third = x.fold(THIRD, COLUMNS);
        int half = x.fold(HALF, COLUMNS);
        int both = x.cross(third, half);
        // 4 on 3 and 5 on 2 first; then 1 on 2 and 0 on 3: the piles 1, 5, 2 and 0, 4, 3.
        shows(x, both, 1, 6, "1030", "0030", "0040", "1040", "0000", "1000", "1010", "0010", "1050", "0050",
            "0020", "1020");
    }

    private static void wideGate() {
        FoldPress x = new FoldPress();
        int gate = x.fold(GATE, ROWS);
        int half = x.fold(HALF, ROWS);
        int shut = x.fold(SHUT, ROWS);
        int gateHalfHalf = x.cross(x.cross(gate, half), half);
        int shutHalf = x.cross(shut, half);
        T.due(21, x.faces(gate, 8, 1), OPEN);
        // After GATE: 1, 2 | 0, 3 | 7, 4 | 6, 5; after HALF: 5, 6, 1, 2 | 4, 7, 0, 3; then the second on the first.
        String rows = "30745612";
        for (int leaf = 0; leaf < rows.length(); leaf++) {
            T.due(20, x.face(gateHalfHalf, 8, 1, 2 * leaf, 1), rows.charAt(leaf) - '0');
            T.due(20, x.face(shutHalf, 8, 1, 2 * leaf + 1, 1), rows.charAt(leaf) - '0');
        }
        T.due(21, x.faces(shutHalf, 8, 1), 16);
    }

    private static void faceRefusals() {
        FoldPress x = new FoldPress();
        T.due(20, x.face(0, 1, 1, 0, 9), NONE);
        T.due(21, x.faces(0, 9, 9), NONE);
        int half = x.fold(HALF, COLUMNS);
        T.due(20, x.face(half, 9, 9, 0, -1), OUTSIDE);
        T.due(20, x.face(half, 9, 9, 0, 4), OUTSIDE);
        T.due(20, x.face(half, 9, 2, 0, 0), LARGE);
        T.due(20, x.face(half, 1, 9, 0, 0), LARGE);
        T.due(20, x.face(half, -1, HIGHEST, 0, 0), LARGE);
        T.due(20, x.face(half, -1, 2, 0, 0), SIZE);
        T.due(20, x.face(half, 1, LOWEST, 0, 0), SIZE);
        T.due(21, x.faces(half, 9, -1), LARGE);
        T.due(21, x.faces(half, 8, -1), SIZE);
        T.due(21, x.told(6), 0);
        T.due(20, x.face(half, 1, 3, 99, 0), UNFIT);
        T.due(20, x.face(half, 2, 2, 99, 0), OPEN);
        T.due(20, x.face(half, 1, 2, -1, 0), BEYOND);
        T.due(20, x.face(half, 1, 2, 4, 0), BEYOND);
        T.due(20, x.face(half, 1, 2, LOWEST, 0), BEYOND);
        T.due(21, x.told(6), 5);
    }

    private static void unfitAndOpen() {
        FoldPress x = new FoldPress();
        for (int kind = FLAT; kind <= SHUT; kind++) {
            x.fold(kind, COLUMNS);
        }
        int[] parts = {1, 2, 3, 4, 4};
        for (int kind = HALF; kind <= SHUT; kind++) {
            for (int columns = 0; columns <= 8; columns++) {
                boolean fits = columns % parts[kind] == 0;
                boolean one = columns == parts[kind] && kind != GATE;
                T.due(21, x.faces(kind, 1, columns), !fits ? UNFIT : one ? 2 * columns : OPEN);
            }
        }
        T.due(21, x.faces(FLAT, 1, 0), OPEN);
        T.due(21, x.faces(FLAT, 0, 1), OPEN);
        T.due(21, x.faces(HALF, 0, 2), OPEN);
        T.due(21, x.faces(HALF, 0, 3), UNFIT);
        T.due(21, x.faces(FLAT, 8, 8), OPEN);
    }

    private static void trace() {
        FoldPress x = new FoldPress();
        for (int kind = FLAT; kind <= SHUT; kind++) {
            x.fold(kind, COLUMNS);
        }
        T.due(51, x.trace(0), NONE);
        T.due(51, x.trace(-1), NONE);
        x.faces(FLAT, 1, 1);
        T.due(51, x.trace(1), NONE);
        x.faces(HALF, 1, 2);
        x.faces(THIRD, 1, 3);
        x.faces(GATE, 1, 4);
        traces(x, 1, 2, 3, 4);
        x.faces(SHUT, 1, 4);
        traces(x, 4, 5, 4, 2);
        T.due(51, x.told(6), 7);
        // UNFIT comes after the fold has begun; a SHUT that is UNFIT never halves.
        x.faces(HALF, 1, 3);
        x.faces(SHUT, 1, 3);
        traces(x, 2, 5, 4);
        int shutHalf = x.cross(SHUT, HALF);
        int deep = x.cross(shutHalf, THIRD);
        T.due(21, x.faces(deep, 1, 8), UNFIT);
        traces(x, 6, 6, 5, 4, 2, 2, 3);
        T.due(21, x.faces(deep, 1, 6), UNFIT);
        traces(x, 3, 6, 6, 5, 4);
        T.due(51, x.told(6), 21);
        x.lips(GATE);
        x.worth(deep, 0);
        T.due(51, x.told(6), 21);
    }

    private static void longTrace() {
        FoldPress x = new FoldPress();
        x.fold(THIRD, COLUMNS);
        x.fold(HALF, COLUMNS);
        x.faces(0, 1, 3);
        for (int n = 0; n < 39; n++) {
            x.faces(1, 1, 2);
        }
        T.due(51, x.trace(39), 3);
        T.due(51, x.trace(38), 2);
        T.due(51, x.trace(40), NONE);
        x.faces(0, 1, 3);
        T.due(51, x.trace(0), 3);
        T.due(51, x.trace(1), 2);
        T.due(51, x.trace(39), 2);
        T.due(51, x.trace(40), NONE);
        T.due(51, x.trace(HIGHEST), NONE);
        T.due(51, x.told(6), 41);
    }

    public static void main(String[] args) {
        fold();
        cross();
        lips();
        inner();
        worth();
        plainFaces();
        crossedFaces();
        severalLines();
        wideThird();
        wideGate();
        faceRefusals();
        unfitAndOpen();
        trace();
        longTrace();
        T.end();
    }
}
