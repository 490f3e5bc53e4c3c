import java.util.ArrayList;
import java.util.Collections;
import java.util.List;

/**
 * The document once more, in another way than FoldPress: objects in lists, a copy of everything ahead of each
 * change, folds that build new grids, and a thrown Stop for all that is no ordinary answer.
 */
final class Model {
    private static final int OUTSIDE = -1, NONE = -2, FULL = -3, JAMMED = -4, BUSY = -5;
    private static final int BLANK = 1, BEYOND = 2, SIZE = 3, LARGE = 4, COPY = 5, KIND = 6, UNFIT = 7, OPEN = 8,
        DOUBLE = 9, JAM = 10;

    private static final class Stop extends RuntimeException {
        private static final long serialVersionUID = 1L;
        final int answer;

        Stop(int answer) {
            super(null, null, false, false);
            this.answer = answer;
        }
    }

    private static final class Job {
        int lines, width;
        final List<int[][]> pages = new ArrayList<>();
    }

    private static final class Sheet {
        int job, rows, columns, place = -1, number = -1, cause = 0, fold = -1, signature = -1;
        /** By side, row (null: TORN), column: page and up. */
        int[][][][] cells;
    }

    private static final class Signature {
        int way;
        final List<Integer> sheets = new ArrayList<>();
    }

    private record Fold(int kind, int axis, int first, int second, int plain, int thick, int trim) { }

    private record Leaf(int row, int column, int above, int up) { }

    private record Face(int side, int row, int column, int up) { }

    private record Spot(int sheet, int k, Face face) { }

    private static final class State {
        List<Job> jobs = new ArrayList<>();
        List<Fold> folds = new ArrayList<>();
        List<Sheet> sheets = new ArrayList<>();
        List<Signature> signatures = new ArrayList<>();
        List<Integer> book = new ArrayList<>();
        int cover = -1, margin = 3;
        boolean doubleTold, jammed;
        boolean[] jams = new boolean[5];

        State copy() {
            State s = new State();
            for (Job job : jobs) {
                Job j = new Job();
                j.lines = job.lines;
                j.width = job.width;
                for (int[][] page : job.pages) {
                    j.pages.add(copyPage(page));
                }
                s.jobs.add(j);
            }
            s.folds.addAll(folds);
            for (Sheet sheet : sheets) {
                s.sheets.add(copySheet(sheet));
            }
            for (Signature signature : signatures) {
                Signature g = new Signature();
                g.way = signature.way;
                g.sheets.addAll(signature.sheets);
                s.signatures.add(g);
            }
            s.book.addAll(book);
            s.cover = cover;
            s.margin = margin;
            s.doubleTold = doubleTold;
            s.jammed = jammed;
            s.jams = jams.clone();
            return s;
        }

        private static Sheet copySheet(Sheet sheet) {
            Sheet h = new Sheet();
            h.job = sheet.job;
            h.rows = sheet.rows;
            h.columns = sheet.columns;
            h.place = sheet.place;
            h.number = sheet.number;
            h.cause = sheet.cause;
            h.fold = sheet.fold;
            h.signature = sheet.signature;
            h.cells = new int[2][sheet.rows][][];
            for (int side = 0; side < 2; side++) {
                for (int row = 0; row < sheet.rows; row++) {
                    int[][] cells = sheet.cells[side][row];
                    if (cells != null) {
                        h.cells[side][row] = new int[cells.length][];
                        for (int k = 0; k < cells.length; k++) {
                            h.cells[side][row][k] = cells[k].clone();
                        }
                    }
                }
            }
            return h;
        }
    }

    private State now = new State();
    private State before = null;
    private int found, latest, worked, ink, numbers, movedRows;
    private final List<Integer> trace = new ArrayList<>();

    private static int[][] copyPage(int[][] page) {
        if (page == null) {
            return null;
        }
        int[][] copy = new int[page.length][];
        for (int i = 0; i < page.length; i++) {
            copy[i] = page[i] == null ? null : page[i].clone();
        }
        return copy;
    }

    int jobCount() {
        return now.jobs.size();
    }

    int pageCount(int job) {
        return job >= 0 && job < now.jobs.size() ? now.jobs.get(job).pages.size() : 0;
    }

    int foldCount() {
        return now.folds.size();
    }

    int sheetCount() {
        return now.sheets.size();
    }

    int signatureCount() {
        return now.signatures.size();
    }

    /** Answers a call as FoldPress should. */
    int call(String name, int[] a) {
        try {
            return dispatch(name, a);
        } catch (Stop stop) {
            return stop.answer;
        }
    }

    private int dispatch(String name, int[] a) {
        switch (name) {
            case "job": return job(a);
            case "page": return page(a);
            case "blank": return blank(a);
            case "rows": return rows(a);
            case "row": return row(a);
            case "miss": return miss(a);
            case "letter": return letter(a);
            case "at": return letterOf(pageOf(a[0], a[1]), a[2], a[3]);
            case "size": return size(a);
            case "move": return move(a);
            case "moved": return movedRows;
            case "cut": return cut(a);
            case "join": return join(a);
            case "fold": return fold(a);
            case "cross": return cross(a);
            case "lips": return lips(a);
            case "inner": return inner(a);
            case "worth": return worth(a);
            case "face": return face(a);
            case "faces": needFold(a[0]); return grid(a[0], a[1], a[2]).size();
            case "sheet": return sheet(a);
            case "tear": return tear(a);
            case "put": return put(a);
            case "cell": return cell(a);
            case "shift": return shift(a);
            case "lay": return lay(a);
            case "read": needSheet(a[0]); needFold(a[1]); return readFace(a[0], a[1], a[2]);
            case "seen": return seen(a);
            case "signature": return signature(a);
            case "gather": return gather(a);
            case "bind": return bind(a);
            case "leaf": return leaf(a);
            case "creep": return creep(a);
            case "add": return add(a);
            case "cover": return cover(a);
            case "pageAt": return pageAt(a);
            case "wrap": return wrap(a);
            case "foldBy": return foldBy(a);
            case "margin": return margin(a);
            case "feed": return feed(a);
            case "doubled": jammedOrNot(); change(); now.doubleTold = true; return 1;
            case "jam": jammedOrNot(); range(a[0], 0, 4); change(); now.jams[a[0]] = true; return 1;
            case "step": return step();
            case "reprint": return reprint(a);
            case "clear": return clear();
            case "state": return state(a);
            case "good": return good(a);
            case "undo": return undo();
            case "told": return told(a);
            case "trace": return a[0] < 0 || a[0] > 39 || a[0] >= trace.size() ? NONE : trace.get(trace.size() - 1 - a[0]);
            case "about": return about(a);
            default: throw new IllegalArgumentException(name);
        }
    }

    // ---- refusals and findings

    private void jammedOrNot() {
        if (now.jammed) {
            throw new Stop(JAMMED);
        }
    }

    private static void range(int n, int from, int to) {
        if (n < from || n > to) {
            throw new Stop(OUTSIDE);
        }
    }

    private static void refuse(boolean when, int answer) {
        if (when) {
            throw new Stop(answer);
        }
    }

    private Stop find(int finding) {
        found++;
        latest = finding;
        return new Stop(-10 - finding);
    }

    private void find(boolean when, int finding) {
        if (when) {
            throw find(finding);
        }
    }

    private void change() {
        before = now.copy();
    }

    private Job needJob(int job) {
        refuse(job < 0 || job >= now.jobs.size(), NONE);
        return now.jobs.get(job);
    }

    private Fold needFold(int fold) {
        refuse(fold < 0 || fold >= now.folds.size(), NONE);
        return now.folds.get(fold);
    }

    private Sheet needSheet(int sheet) {
        refuse(sheet < 0 || sheet >= now.sheets.size(), NONE);
        return now.sheets.get(sheet);
    }

    private Signature needSignature(int signature) {
        refuse(signature < 0 || signature >= now.signatures.size(), NONE);
        return now.signatures.get(signature);
    }

    private int[][] pageOf(int job, int page) {
        Job j = needJob(job);
        refuse(page < 1 || page > j.pages.size(), NONE);
        return j.pages.get(page - 1);
    }

    private void setPage(int job, int page, int[][] rows) {
        now.jobs.get(job).pages.set(page - 1, rows);
    }

    // ---- jobs and pages

    private int job(int[] a) {
        jammedOrNot();
        range(a[0], 1, 8);
        range(a[1], 1, 10);
        refuse(now.jobs.size() == 3, FULL);
        change();
        Job j = new Job();
        j.lines = a[0];
        j.width = a[1];
        now.jobs.add(j);
        return now.jobs.size() - 1;
    }

    private int page(int[] a) {
        jammedOrNot();
        refuse(needJob(a[0]).pages.size() == 24, FULL);
        change();
        now.jobs.get(a[0]).pages.add(null);
        return now.jobs.get(a[0]).pages.size();
    }

    private int blank(int[] a) {
        jammedOrNot();
        pageOf(a[0], a[1]);
        change();
        setPage(a[0], a[1], null);
        return 1;
    }

    private int rows(int[] a) {
        jammedOrNot();
        pageOf(a[0], a[1]);
        change();
        find(a[2] > 8, LARGE);
        find(a[2] < 0, SIZE);
        setPage(a[0], a[1], new int[a[2]][]);
        return 1;
    }

    private int row(int[] a) {
        jammedOrNot();
        pageOf(a[0], a[1]);
        change();
        find(a[3] > 10, LARGE);
        find(a[3] < 0, SIZE);
        int[][] page = pageOf(a[0], a[1]);
        find(page == null, BLANK);
        find(a[2] < 0 || a[2] >= page.length, BEYOND);
        page[a[2]] = new int[a[3]];
        java.util.Arrays.fill(page[a[2]], 32);
        return 1;
    }

    private int miss(int[] a) {
        jammedOrNot();
        pageOf(a[0], a[1]);
        change();
        int[][] page = pageOf(a[0], a[1]);
        find(page == null, BLANK);
        find(a[2] < 0 || a[2] >= page.length, BEYOND);
        page[a[2]] = null;
        return 1;
    }

    private int letterOf(int[][] page, int i, int k) {
        find(page == null, BLANK);
        find(i < 0 || i >= page.length, BEYOND);
        find(page[i] == null, BLANK);
        find(k < 0 || k >= page[i].length, BEYOND);
        return page[i][k];
    }

    private int letter(int[] a) {
        jammedOrNot();
        pageOf(a[0], a[1]);
        range(a[4], 32, 126);
        change();
        int[][] page = pageOf(a[0], a[1]);
        letterOf(page, a[2], a[3]);
        page[a[2]][a[3]] = a[4];
        return 1;
    }

    private int size(int[] a) {
        int[][] page = pageOf(a[0], a[1]);
        find(page == null, BLANK);
        if (a[2] == -1) {
            return page.length;
        }
        find(a[2] < 0 || a[2] >= page.length, BEYOND);
        find(page[a[2]] == null, BLANK);
        return page[a[2]].length;
    }

    private int[] copyable(int[][] page, long i, int n) {
        find(page == null || i < 0 || i >= page.length || n < 0, COPY);
        int[] row = page[(int) i];
        find(row == null || row.length < n, COPY);
        return row;
    }

    private int move(int[] a) {
        jammedOrNot();
        pageOf(a[0], a[1]);
        pageOf(a[0], a[3]);
        range(a[5], 0, 8);
        change();
        movedRows = 0;
        for (int n = 0; n < a[5]; n++) {
            int[] from = copyable(pageOf(a[0], a[1]), (long) a[2] + n, a[6]);
            int[] to = copyable(pageOf(a[0], a[3]), (long) a[4] + n, a[6]);
            System.arraycopy(from, 0, to, 0, a[6]);
            movedRows++;
        }
        return 1;
    }

    private int cut(int[] a) {
        jammedOrNot();
        needJob(a[0]);
        change();
        find(a[1] > 8 || a[2] > 10, LARGE);
        find(a[1] < 0 || a[2] < 0, SIZE);
        Job j = now.jobs.get(a[0]);
        j.lines = a[1];
        j.width = a[2];
        for (int p = 0; p < j.pages.size(); p++) {
            int[][] page = j.pages.get(p);
            if (page != null && page.length > a[1]) {
                page = java.util.Arrays.copyOf(page, a[1]);
                j.pages.set(p, page);
            }
            for (int i = 0; page != null && i < page.length; i++) {
                if (page[i] != null && page[i].length > a[2]) {
                    page[i] = java.util.Arrays.copyOf(page[i], a[2]);
                }
            }
        }
        return 1;
    }

    private int join(int[] a) {
        jammedOrNot();
        refuse(needJob(a[0]).pages.size() + needJob(a[1]).pages.size() > 24, FULL);
        change();
        List<int[][]> coming = new ArrayList<>();
        for (int[][] page : now.jobs.get(a[1]).pages) {
            coming.add(copyPage(page));
        }
        now.jobs.get(a[0]).pages.addAll(coming);
        return now.jobs.get(a[0]).pages.size();
    }

    private int about(int[] a) {
        Job j = needJob(a[0]);
        range(a[1], 0, 2);
        return a[1] == 0 ? j.pages.size() : a[1] == 1 ? j.lines : j.width;
    }

    // ---- folds

    private int fold(int[] a) {
        jammedOrNot();
        range(a[0], 0, 4);
        range(a[1], 0, 1);
        refuse(now.folds.size() == 16, FULL);
        change();
        int[] thick = {1, 2, 3, 2, 4};
        int[] trim = {0, 1, 1, 2, 3};
        now.folds.add(new Fold(a[0], a[1], -1, -1, 1, thick[a[0]], trim[a[0]]));
        return now.folds.size() - 1;
    }

    private int cross(int[] a) {
        jammedOrNot();
        Fold f = needFold(a[0]);
        Fold g = needFold(a[1]);
        refuse(now.folds.size() == 16 || f.plain + g.plain > 8, FULL);
        change();
        now.folds.add(new Fold(5, 0, a[0], a[1], f.plain + g.plain, f.thick * g.thick, f.trim + g.trim));
        return now.folds.size() - 1;
    }

    private int lips(int[] a) {
        int kind = needFold(a[0]).kind;
        find(kind != 3 && kind != 4, KIND);
        return kind - 1;
    }

    private int inner(int[] a) {
        Fold f = needFold(a[0]);
        range(a[1], 0, 1);
        find(f.kind != 5, KIND);
        return a[1] == 0 ? f.first : f.second;
    }

    private int worth(int[] a) {
        Fold f = needFold(a[0]);
        range(a[1], 0, 1);
        return a[1] == 0 ? f.thick : f.trim;
    }

    private static List<Leaf> turned(List<Leaf> pile, int axis) {
        List<Leaf> turned = new ArrayList<>();
        for (Leaf leaf : pile) {
            turned.add(0, new Leaf(leaf.row, leaf.column, 1 - leaf.above, axis == 0 ? 1 - leaf.up : leaf.up));
        }
        return turned;
    }

    private static void over(List<List<Leaf>> line, int from, int to, int axis) {
        List<Leaf> pile = new ArrayList<>(turned(line.get(from), axis));
        pile.addAll(line.get(to));
        line.set(to, pile);
    }

    /** One line of piles, folded; its length has been looked at. */
    private static List<List<Leaf>> foldLine(List<List<Leaf>> given, int kind, int axis) {
        List<List<Leaf>> line = new ArrayList<>(given);
        int n = line.size();
        if (kind == 1) {
            for (int k = 0; k < n / 2; k++) {
                over(line, n / 2 + k, n / 2 - 1 - k, axis);
            }
            return line.subList(0, n / 2);
        }
        if (kind == 2) {
            int w = n / 3;
            for (int k = 0; k < w; k++) {
                over(line, 2 * w + k, 2 * w - 1 - k, axis);
            }
            for (int k = 0; k < w; k++) {
                over(line, w - 1 - k, w + k, axis);
            }
            return line.subList(w, 2 * w);
        }
        int w = n / 4;
        for (int k = 0; k < w; k++) {
            over(line, w - 1 - k, w + k, axis);
            over(line, 3 * w + k, 3 * w - 1 - k, axis);
        }
        return line.subList(w, 3 * w);
    }

    /** A grid of piles with its measures, which outlive rows that are none. */
    private static final class Grid {
        int rows, columns;
        List<List<List<Leaf>>> piles = new ArrayList<>();

        void foldBy(int kind, int axis) {
            int n = axis == 0 ? rows : columns;
            int left = kind == 1 ? n / 2 : kind == 2 ? n / 3 : n / 2;
            List<List<List<Leaf>>> lines = axis == 0 ? transposed(piles, rows, columns) : piles;
            List<List<List<Leaf>>> folded = new ArrayList<>();
            for (List<List<Leaf>> line : lines) {
                folded.add(foldLine(line, kind, axis));
            }
            if (axis == 0) {
                rows = left;
                piles = transposed(folded, columns, rows);
            } else {
                columns = left;
                piles = folded;
            }
        }

        private static List<List<List<Leaf>>> transposed(List<List<List<Leaf>>> lines, int rows, int columns) {
            List<List<List<Leaf>>> result = new ArrayList<>();
            for (int c = 0; c < columns; c++) {
                List<List<Leaf>> line = new ArrayList<>();
                for (int r = 0; r < rows; r++) {
                    line.add(lines.get(r).get(c));
                }
                result.add(line);
            }
            return result;
        }
    }

    private void plainFold(Grid grid, int kind, int axis) {
        trace.add(kind + 1);
        if (kind == 4) {
            plainFold(grid, 3, axis);
            plainFold(grid, 1, axis);
            return;
        }
        if (kind != 0) {
            int[] parts = {1, 2, 3, 4};
            find((axis == 0 ? grid.rows : grid.columns) % parts[kind] != 0, UNFIT);
            grid.foldBy(kind, axis);
        }
    }

    private void doFold(Grid grid, Fold f) {
        if (f.kind == 5) {
            trace.add(6);
            doFold(grid, now.folds.get(f.first));
            doFold(grid, now.folds.get(f.second));
        } else {
            plainFold(grid, f.kind, f.axis);
        }
    }

    private List<Face> grid(int fold, int rows, int columns) {
        find(rows > 8 || columns > 8, LARGE);
        find(rows < 0 || columns < 0, SIZE);
        Grid grid = new Grid();
        grid.rows = rows;
        grid.columns = columns;
        for (int r = 0; r < rows; r++) {
            List<List<Leaf>> line = new ArrayList<>();
            for (int c = 0; c < columns; c++) {
                line.add(Collections.singletonList(new Leaf(r, c, 0, 0)));
            }
            grid.piles.add(line);
        }
        doFold(grid, now.folds.get(fold));
        find(grid.rows * grid.columns != 1, OPEN);
        List<Face> faces = new ArrayList<>();
        for (Leaf leaf : grid.piles.get(0).get(0)) {
            faces.add(new Face(leaf.above, leaf.row, leaf.column, leaf.up));
            faces.add(new Face(1 - leaf.above, leaf.row, leaf.column, leaf.up));
        }
        return faces;
    }

    private int face(int[] a) {
        needFold(a[0]);
        range(a[4], 0, 3);
        List<Face> faces = grid(a[0], a[1], a[2]);
        find(a[3] < 0 || a[3] >= faces.size(), BEYOND);
        Face f = faces.get(a[3]);
        return a[4] == 0 ? f.side : a[4] == 1 ? f.row : a[4] == 2 ? f.column : f.up;
    }

    // ---- sheets

    private int sheet(int[] a) {
        jammedOrNot();
        needJob(a[0]);
        refuse(now.sheets.size() == 8, FULL);
        change();
        find(a[1] > 8 || a[2] > 8, LARGE);
        find(a[1] < 0 || a[2] < 0, SIZE);
        Sheet s = new Sheet();
        s.job = a[0];
        s.rows = a[1];
        s.columns = a[2];
        s.cells = new int[2][a[1]][a[2]][2];
        now.sheets.add(s);
        return now.sheets.size() - 1;
    }

    private int tear(int[] a) {
        jammedOrNot();
        needSheet(a[0]);
        range(a[1], 0, 1);
        change();
        Sheet s = now.sheets.get(a[0]);
        find(a[2] < 0 || a[2] >= s.rows, BEYOND);
        s.cells[a[1]][a[2]] = null;
        return 1;
    }

    private int[] cellOf(int sheet, int side, int row, int column) {
        Sheet s = now.sheets.get(sheet);
        find(row < 0 || row >= s.rows, BEYOND);
        find(s.cells[side][row] == null, BLANK);
        find(column < 0 || column >= s.columns, BEYOND);
        return s.cells[side][row][column];
    }

    private int put(int[] a) {
        jammedOrNot();
        needSheet(a[0]);
        range(a[1], 0, 1);
        range(a[4], 0, 24);
        range(a[5], 0, 1);
        change();
        int[] c = cellOf(a[0], a[1], a[2], a[3]);
        c[0] = a[4];
        c[1] = a[5];
        return 1;
    }

    private int cell(int[] a) {
        needSheet(a[0]);
        range(a[1], 0, 1);
        range(a[4], 0, 1);
        return cellOf(a[0], a[1], a[2], a[3])[a[4]];
    }

    private int[][] shiftable(int sheet, int side, long row, int n) {
        Sheet s = now.sheets.get(sheet);
        find(n < 0 || row < 0 || row >= s.rows, COPY);
        int[][] cells = s.cells[side][(int) row];
        find(cells == null || cells.length < n, COPY);
        return cells;
    }

    private int shift(int[] a) {
        jammedOrNot();
        needSheet(a[0]);
        needSheet(a[3]);
        range(a[1], 0, 1);
        range(a[4], 0, 1);
        range(a[6], 0, 8);
        change();
        movedRows = 0;
        for (int n = 0; n < a[6]; n++) {
            int[][] from = shiftable(a[0], a[1], (long) a[2] + n, a[7]);
            int[][] to = shiftable(a[3], a[4], (long) a[5] + n, a[7]);
            for (int k = 0; k < a[7]; k++) {
                to[k] = from[k].clone();
            }
            movedRows++;
        }
        return 1;
    }

    private List<Face> sheetFaces(int sheet, int fold) {
        Sheet s = now.sheets.get(sheet);
        return grid(fold, s.rows, s.columns);
    }

    private void layFaces(List<Spot> spots, int first) {
        int page = first;
        for (Spot spot : spots) {
            int[] c = cellOf(spot.sheet, spot.face.side, spot.face.row, spot.face.column);
            c[0] = page <= now.jobs.get(now.sheets.get(spot.sheet).job).pages.size() ? page : 0;
            c[1] = spot.face.up;
            page++;
        }
    }

    private int lay(int[] a) {
        jammedOrNot();
        needSheet(a[0]);
        needFold(a[1]);
        range(a[2], 1, 24);
        change();
        List<Spot> spots = new ArrayList<>();
        for (Face face : sheetFaces(a[0], a[1])) {
            spots.add(new Spot(a[0], spots.size(), face));
        }
        layFaces(spots, a[2]);
        return spots.size();
    }

    private int readFace(int sheet, int fold, int k) {
        List<Face> faces = sheetFaces(sheet, fold);
        find(k < 0 || k >= faces.size(), BEYOND);
        Face f = faces.get(k);
        return cellOf(sheet, f.side, f.row, f.column)[0];
    }

    private int seenOf(int sheet, int[] cell, int line, int place) {
        Job j = now.jobs.get(now.sheets.get(sheet).job);
        find(cell[0] < 1 || cell[0] > j.pages.size(), BLANK);
        int[][] page = j.pages.get(cell[0] - 1);
        return cell[1] == 0 ? letterOf(page, line, place) : letterOf(page, j.lines - 1 - line, j.width - 1 - place);
    }

    private int seen(int[] a) {
        needSheet(a[0]);
        range(a[1], 0, 1);
        return seenOf(a[0], cellOf(a[0], a[1], a[2], a[3]), a[4], a[5]);
    }

    // ---- signatures, the book

    private int signature(int[] a) {
        jammedOrNot();
        range(a[0], 0, 1);
        refuse(now.signatures.size() == 4, FULL);
        change();
        Signature g = new Signature();
        g.way = a[0];
        now.signatures.add(g);
        return now.signatures.size() - 1;
    }

    private int gather(int[] a) {
        jammedOrNot();
        Signature g = needSignature(a[0]);
        refuse(needSheet(a[1]).signature >= 0, BUSY);
        refuse(g.sheets.size() == 4, FULL);
        change();
        now.sheets.get(a[1]).signature = a[0];
        now.signatures.get(a[0]).sheets.add(a[1]);
        return now.signatures.get(a[0]).sheets.size();
    }

    private List<Spot> signatureFaces(int signature, int fold) {
        Signature g = now.signatures.get(signature);
        List<Spot> front = new ArrayList<>();
        List<Spot> rear = new ArrayList<>();
        for (int sheet : g.sheets) {
            List<Face> faces = sheetFaces(sheet, fold);
            List<Spot> second = new ArrayList<>();
            for (int k = 0; k < faces.size(); k++) {
                Spot spot = new Spot(sheet, k, faces.get(k));
                (g.way == 0 || k < faces.size() / 2 ? front : second).add(spot);
            }
            rear.addAll(0, second);
        }
        front.addAll(rear);
        return front;
    }

    private int bind(int[] a) {
        jammedOrNot();
        needSignature(a[0]);
        needFold(a[1]);
        range(a[2], 1, 24);
        change();
        List<Spot> spots = signatureFaces(a[0], a[1]);
        layFaces(spots, a[2]);
        return spots.size();
    }

    private int leaf(int[] a) {
        needSignature(a[0]);
        needFold(a[1]);
        range(a[3], 0, 1);
        List<Spot> spots = signatureFaces(a[0], a[1]);
        find(a[2] < 0 || a[2] >= spots.size(), BEYOND);
        return a[3] == 0 ? spots.get(a[2]).sheet : spots.get(a[2]).k;
    }

    private int creep(int[] a) {
        Signature g = needSignature(a[0]);
        Fold f = needFold(a[1]);
        find(a[2] < 0 || a[2] >= g.sheets.size(), BEYOND);
        return g.way * a[2] * f.thick;
    }

    private int add(int[] a) {
        jammedOrNot();
        needSignature(a[0]);
        refuse(now.book.contains(a[0]), BUSY);
        change();
        now.book.add(a[0]);
        return now.book.size();
    }

    private int cover(int[] a) {
        jammedOrNot();
        refuse(a[0] < -1 || a[0] >= now.sheets.size(), NONE);
        change();
        now.cover = a[0];
        return 1;
    }

    private int pageAt(int[] a) {
        needFold(a[0]);
        List<Spot> spots = new ArrayList<>();
        for (int signature : now.book) {
            spots.addAll(signatureFaces(signature, a[0]));
        }
        find(a[1] < 0 || a[1] >= spots.size(), BEYOND);
        Spot spot = spots.get(a[1]);
        return cellOf(spot.sheet, spot.face.side, spot.face.row, spot.face.column)[0];
    }

    private int wrap(int[] a) {
        needFold(a[0]);
        find(now.cover == -1, BLANK);
        return readFace(now.cover, a[0], a[1]);
    }

    // ---- the run

    private int foldBy(int[] a) {
        jammedOrNot();
        needSheet(a[0]);
        needFold(a[1]);
        change();
        now.sheets.get(a[0]).fold = a[1];
        return 1;
    }

    private int margin(int[] a) {
        jammedOrNot();
        range(a[0], 0, 9);
        change();
        int was = now.margin;
        now.margin = a[0];
        return was;
    }

    private int sheetAt(int place) {
        for (int s = 0; s < now.sheets.size(); s++) {
            if (now.sheets.get(s).place == place) {
                return s;
            }
        }
        return -1;
    }

    private int feed(int[] a) {
        jammedOrNot();
        refuse(needSheet(a[0]).place != -1 || sheetAt(0) != -1, BUSY);
        change();
        Sheet s = now.sheets.get(a[0]);
        s.place = 0;
        s.number = numbers++;
        return s.number;
    }

    private void work(int station, int sheet) {
        Sheet s = now.sheets.get(sheet);
        switch (station) {
            case 0:
                boolean told = now.doubleTold;
                now.doubleTold = false;
                find(told, DOUBLE);
                break;
            case 1:
            case 2:
                for (int[][] row : s.cells[station - 1]) {
                    find(row == null, BLANK);
                    for (int[] c : row) {
                        if (c[0] != 0) {
                            ink += seenOf(sheet, c, 0, 0);
                        }
                    }
                }
                break;
            case 3:
                find(s.fold == -1, BLANK);
                sheetFaces(sheet, s.fold);
                break;
            default:
                find(now.margin - now.folds.get(s.fold).trim < 0, SIZE);
        }
    }

    private int step() {
        jammedOrNot();
        change();
        int well = 0;
        for (int station = 4; station >= 0; station--) {
            int sheet = sheetAt(station);
            if (sheet == -1) {
                continue;
            }
            worked++;
            Sheet s = now.sheets.get(sheet);
            boolean jam = now.jams[station];
            try {
                if (jam) {
                    now.jams[station] = false;
                    now.jammed = true;
                    throw find(JAM);
                }
                work(station, sheet);
                s.place = station + 1;
                well++;
            } catch (Stop stop) {
                s.place = 6;
                s.cause = -10 - stop.answer;
            }
            if (jam) {
                break;
            }
        }
        return well;
    }

    private int reprint(int[] a) {
        jammedOrNot();
        refuse(needSheet(a[0]).place != 6, BUSY);
        change();
        now.sheets.get(a[0]).place = -1;
        now.sheets.get(a[0]).cause = 0;
        return 1;
    }

    private int clear() {
        change();
        int was = now.jammed ? 1 : 0;
        now.jammed = false;
        return was;
    }

    private int state(int[] a) {
        Sheet s = needSheet(a[0]);
        range(a[1], 0, 2);
        return a[1] == 0 ? s.place : a[1] == 1 ? s.number : s.cause;
    }

    private int good(int[] a) {
        int n = 0;
        for (int sheet : needSignature(a[0]).sheets) {
            if (now.sheets.get(sheet).place != 5) {
                break;
            }
            n++;
        }
        return n;
    }

    private int undo() {
        jammedOrNot();
        if (before == null) {
            return 0;
        }
        now = before;
        before = null;
        return 1;
    }

    private int told(int[] a) {
        range(a[0], 0, 12);
        int[] all = {found, latest, worked, ink, numbers, now.jammed ? 1 : 0, trace.size(), now.jobs.size(),
            now.folds.size(), now.sheets.size(), now.signatures.size(), now.book.size(), now.margin};
        return all[a[0]];
    }
}
