import java.util.function.Supplier;

/** The boundary cases of promises 22 to 29 and of part 3 of the Terms: sheets. */
final class SheetCases extends Bench {
    private static final int FRONT = 0, BACK = 1;

    /** press(), with eight sheets. */
    private static Supplier<FoldPress> withAllSheets() {
        return () -> {
            FoldPress x = press();
            for (int sheet = 4; sheet < 8; sheet++) {
                T.due(x.sheet(1, 1, 1), sheet);
            }
            x.margin(8);
            return x;
        };
    }

    /** press(), with the front of sheet 0 and the first row of the back of sheet 2 TORN. */
    private static Supplier<FoldPress> withTorn() {
        return after(x -> x.tear(0, FRONT, 0), x -> x.tear(2, BACK, 0));
    }

    /** press(), with pages 1 to 8 on the cells of sheet 2, front and back, and 9, 10 on the front of sheet 0. */
    private static FoldPress withPages() {
        FoldPress x = press();
        for (int n = 0; n < 8; n++) {
            x.put(2, n / 4, n / 2 % 2, n % 2, n + 1, n % 2);
        }
        x.put(0, FRONT, 0, 0, 9, 0);
        x.put(0, FRONT, 0, 1, 10, 0);
        x.margin(8);
        return x;
    }

    // ---- 22: sheet

    static void promise22_a_job_that_is_not_there_is_NONE() {
        refused(x -> x.sheet(2, 1, 1), NONE);
        refused(x -> x.sheet(-1, 1, 1), NONE);
        refused(x -> x.sheet(LOWEST, 1, 1), NONE);
        refused(x -> x.sheet(HIGHEST, 1, 1), NONE);
    }

    static void promise22_NONE_comes_ahead_of_FULL_and_of_findings() {
        refused(withAllSheets(), x -> x.sheet(2, 1, 1), NONE);
        refused(x -> x.sheet(2, 9, 1), NONE);
        refused(x -> x.sheet(2, 1, -1), NONE);
    }

    static void promise22_numbers_go_from_0_to_7() {
        FoldPress x = new FoldPress();
        x.job(1, 1);
        for (int sheet = 0; sheet <= 7; sheet++) {
            T.due(x.sheet(0, 1, 1), sheet);
        }
        T.due(x.told(9), 8);
        T.due(x.cell(7, BACK, 0, 0, 0), 0);
    }

    static void promise22_a_ninth_sheet_is_FULL() {
        refused(withAllSheets(), x -> x.sheet(0, 1, 1), FULL);
    }

    static void promise22_FULL_comes_ahead_of_LARGE_and_SIZE() {
        refused(withAllSheets(), x -> x.sheet(0, 9, 1), FULL);
        refused(withAllSheets(), x -> x.sheet(0, 1, -1), FULL);
    }

    static void promise22_nine_rows_or_columns_are_LARGE_and_make_no_sheet() {
        stopped(x -> x.sheet(0, 9, 1), LARGE);
        stopped(x -> x.sheet(0, 1, 9), LARGE);
        stopped(x -> x.sheet(0, HIGHEST, 1), LARGE);
        stopped(x -> x.sheet(0, 1, HIGHEST), LARGE);
    }

    static void promise22_rows_or_columns_below_0_are_SIZE_and_make_no_sheet() {
        stopped(x -> x.sheet(0, -1, 1), SIZE);
        stopped(x -> x.sheet(0, 1, -1), SIZE);
        stopped(x -> x.sheet(0, LOWEST, 1), SIZE);
        stopped(x -> x.sheet(0, 1, LOWEST), SIZE);
    }

    static void promise22_LARGE_comes_ahead_of_SIZE() {
        stopped(x -> x.sheet(0, 9, -1), LARGE);
        stopped(x -> x.sheet(0, -1, 9), LARGE);
    }

    static void promise22_a_sheet_of_eight_by_eight_has_all_its_cells() {
        FoldPress x = press();
        T.due(x.sheet(0, 8, 8), 4);
        T.due(x.put(4, BACK, 7, 7, 24, 1), 1);
        T.due(x.cell(4, BACK, 7, 7, 0), 24);
        T.due(x.cell(4, BACK, 8, 7, 0), BEYOND);
        T.due(x.cell(4, BACK, 7, 8, 0), BEYOND);
    }

    static void promise22_a_sheet_of_0_rows_or_0_columns_is_made() {
        FoldPress x = press();
        T.due(x.sheet(0, 0, 8), 4);
        T.due(x.sheet(0, 8, 0), 5);
        T.due(x.cell(4, FRONT, 0, 0, 0), BEYOND);
        T.due(x.tear(4, FRONT, 0), BEYOND);
        T.due(x.cell(5, FRONT, 7, 0, 0), BEYOND);
        T.due(x.tear(5, FRONT, 7), 1);
    }

    static void promise22_a_new_sheet_is_empty_at_REST_and_has_no_NUMBER() {
        FoldPress x = press();
        T.due(x.sheet(0, 1, 1), 4);
        for (int n = 0; n < 4; n++) {
            T.due(x.cell(4, n / 2, 0, 0, n % 2), 0);
        }
        stands(x, 4, REST, -1, 0);
        T.due(x.gather(0, 4), 1);
    }

    static void promise22_JAMMED_comes_ahead_of_NONE() {
        jammedAheadOfAll(x -> x.sheet(0, 1, 1), x -> x.sheet(2, 1, 1));
        refused(Bench::jammedPress, x -> x.sheet(0, 9, 1), JAMMED);
    }

    static void promise22_undo_takes_it_back_and_nothing_before_it() {
        takenBack(x -> x.sheet(0, 1, 1));
    }

    // ---- 23: tear

    static void promise23_a_sheet_that_is_not_there_is_NONE_ahead_of_OUTSIDE() {
        refused(x -> x.tear(4, 0, 0), NONE);
        refused(x -> x.tear(-1, 2, 0), NONE);
        refused(x -> x.tear(HIGHEST, -1, 0), NONE);
    }

    static void promise23_a_side_below_0_or_above_1_is_OUTSIDE() {
        refused(x -> x.tear(0, -1, 0), OUTSIDE);
        refused(x -> x.tear(0, 2, 0), OUTSIDE);
        refused(x -> x.tear(0, LOWEST, 0), OUTSIDE);
        refused(x -> x.tear(0, HIGHEST, 0), OUTSIDE);
    }

    static void promise23_OUTSIDE_comes_ahead_of_BEYOND() {
        refused(x -> x.tear(0, 2, 1), OUTSIDE);
        refused(x -> x.tear(0, -1, -1), OUTSIDE);
    }

    static void promise23_a_row_that_is_not_there_is_BEYOND() {
        stopped(x -> x.tear(0, FRONT, 1), BEYOND);
        stopped(x -> x.tear(0, FRONT, -1), BEYOND);
        stopped(x -> x.tear(0, FRONT, LOWEST), BEYOND);
        stopped(x -> x.tear(0, FRONT, HIGHEST), BEYOND);
        stopped(x -> x.tear(2, BACK, 2), BEYOND);
    }

    static void promise23_every_row_of_a_sheet_without_rows_is_BEYOND() {
        stopped(x -> x.tear(3, FRONT, 0), BEYOND);
    }

    static void promise23_a_row_that_is_TORN_already_is_no_fault() {
        FoldPress x = withTorn().get();
        T.due(x.tear(0, FRONT, 0), 1);
        T.due(x.told(0), 0);
        T.due(x.cell(0, FRONT, 0, 0, 0), BLANK);
    }

    static void promise23_one_row_of_one_side_is_TORN_alone() {
        FoldPress x = press();
        T.due(x.tear(2, FRONT, 1), 1);
        T.due(x.cell(2, FRONT, 1, 0, 0), BLANK);
        T.due(x.cell(2, FRONT, 0, 0, 0), 0);
        T.due(x.cell(2, BACK, 1, 0, 0), 0);
        T.due(x.cell(1, FRONT, 0, 0, 0), 0);
    }

    static void promise23_JAMMED_comes_ahead_of_NONE_and_OUTSIDE() {
        jammedAheadOfAll(x -> x.tear(0, FRONT, 0), x -> x.tear(4, FRONT, 0));
        refused(Bench::jammedPress, x -> x.tear(0, 2, 0), JAMMED);
        refused(Bench::jammedPress, x -> x.tear(0, FRONT, 1), JAMMED);
    }

    static void promise23_undo_takes_it_back_and_nothing_before_it() {
        takenBack(x -> x.tear(2, BACK, 1));
    }

    // ---- 24: put

    static void promise24_a_sheet_that_is_not_there_is_NONE_ahead_of_OUTSIDE() {
        refused(x -> x.put(4, 0, 0, 0, 1, 0), NONE);
        refused(x -> x.put(-1, 2, 0, 0, 1, 0), NONE);
        refused(x -> x.put(4, 0, 0, 0, 25, 2), NONE);
    }

    static void promise24_a_side_below_0_or_above_1_is_OUTSIDE() {
        refused(x -> x.put(0, -1, 0, 0, 1, 0), OUTSIDE);
        refused(x -> x.put(0, 2, 0, 0, 1, 0), OUTSIDE);
        refused(x -> x.put(0, LOWEST, 0, 0, 1, 0), OUTSIDE);
        refused(x -> x.put(0, HIGHEST, 0, 0, 1, 0), OUTSIDE);
    }

    static void promise24_a_page_below_0_is_OUTSIDE() {
        refused(x -> x.put(0, FRONT, 0, 0, -1, 0), OUTSIDE);
        refused(x -> x.put(0, FRONT, 0, 0, LOWEST, 0), OUTSIDE);
    }

    static void promise24_a_page_above_24_is_OUTSIDE() {
        refused(x -> x.put(0, FRONT, 0, 0, 25, 0), OUTSIDE);
        refused(x -> x.put(0, FRONT, 0, 0, HIGHEST, 0), OUTSIDE);
    }

    static void promise24_up_below_0_or_above_1_is_OUTSIDE() {
        refused(x -> x.put(0, FRONT, 0, 0, 1, -1), OUTSIDE);
        refused(x -> x.put(0, FRONT, 0, 0, 1, 2), OUTSIDE);
        refused(x -> x.put(0, FRONT, 0, 0, 1, LOWEST), OUTSIDE);
        refused(x -> x.put(0, FRONT, 0, 0, 1, HIGHEST), OUTSIDE);
    }

    static void promise24_OUTSIDE_comes_ahead_of_BEYOND_and_BLANK() {
        refused(x -> x.put(0, 2, 1, 0, 1, 0), OUTSIDE);
        refused(x -> x.put(0, FRONT, 1, 0, 25, 0), OUTSIDE);
        refused(x -> x.put(0, FRONT, 0, 2, 1, 2), OUTSIDE);
        refused(withTorn(), x -> x.put(0, FRONT, 0, 0, -1, 0), OUTSIDE);
    }

    static void promise24_pages_0_and_24_are_put_even_if_the_job_has_them_not() {
        FoldPress x = press();
        T.due(x.put(0, FRONT, 0, 0, 24, 1), 1);
        T.due(x.cell(0, FRONT, 0, 0, 0), 24);
        T.due(x.cell(0, FRONT, 0, 0, 1), 1);
        T.due(x.put(0, FRONT, 0, 0, 0, 0), 1);
        T.due(x.cell(0, FRONT, 0, 0, 0), 0);
        T.due(x.cell(0, FRONT, 0, 0, 1), 0);
    }

    static void promise24_no_page_may_lie_the_other_way_up() {
        FoldPress x = press();
        T.due(x.put(0, FRONT, 0, 0, 0, 1), 1);
        T.due(x.cell(0, FRONT, 0, 0, 0), 0);
        T.due(x.cell(0, FRONT, 0, 0, 1), 1);
    }

    static void promise24_a_row_that_is_not_there_is_BEYOND() {
        stopped(x -> x.put(0, FRONT, 1, 0, 1, 0), BEYOND);
        stopped(x -> x.put(0, FRONT, -1, 0, 1, 0), BEYOND);
        stopped(x -> x.put(0, FRONT, LOWEST, 0, 1, 0), BEYOND);
        stopped(x -> x.put(0, FRONT, HIGHEST, 0, 1, 0), BEYOND);
        stopped(x -> x.put(3, FRONT, 0, 0, 1, 0), BEYOND);
    }

    static void promise24_a_TORN_row_is_BLANK_ahead_of_the_column_being_BEYOND() {
        stopped(withTorn(), x -> x.put(0, FRONT, 0, 0, 1, 0), BLANK);
        stopped(withTorn(), x -> x.put(0, FRONT, 0, 2, 1, 0), BLANK);
        stopped(withTorn(), x -> x.put(0, FRONT, 0, -1, 1, 0), BLANK);
    }

    static void promise24_a_row_BEYOND_comes_ahead_of_BLANK() {
        stopped(withTorn(), x -> x.put(0, FRONT, 1, 0, 1, 0), BEYOND);
    }

    static void promise24_a_column_that_is_not_there_is_BEYOND() {
        stopped(x -> x.put(0, FRONT, 0, 2, 1, 0), BEYOND);
        stopped(x -> x.put(0, FRONT, 0, -1, 1, 0), BEYOND);
        stopped(x -> x.put(0, FRONT, 0, LOWEST, 1, 0), BEYOND);
        stopped(x -> x.put(0, FRONT, 0, HIGHEST, 1, 0), BEYOND);
    }

    static void promise24_the_first_and_the_last_cell_are_there() {
        FoldPress x = press();
        T.due(x.put(2, FRONT, 0, 0, 1, 0), 1);
        T.due(x.put(2, BACK, 1, 1, 2, 0), 1);
        carries(x, 2, FRONT, 1, 0, 0, 0);
        carries(x, 2, BACK, 0, 0, 0, 2);
    }

    static void promise24_JAMMED_comes_ahead_of_NONE_and_OUTSIDE() {
        jammedAheadOfAll(x -> x.put(0, FRONT, 0, 0, 1, 0), x -> x.put(4, FRONT, 0, 0, 1, 0));
        refused(Bench::jammedPress, x -> x.put(0, FRONT, 0, 0, 25, 0), JAMMED);
        refused(Bench::jammedPress, x -> x.put(0, FRONT, 1, 0, 1, 0), JAMMED);
    }

    static void promise24_a_row_BEYOND_stays_so_beside_a_side_that_is_TORN() {
        stopped(after(x -> x.tear(0, BACK, 0)), x -> x.put(0, FRONT, 8, 0, 1, 0), BEYOND);
        stopped(after(x -> x.sheet(0, 8, 8), x -> x.tear(4, FRONT, 7)), x -> x.put(4, BACK, -1, 0, 1, 0), BEYOND);
        stopped(after(x -> x.sheet(0, 8, 8), x -> x.tear(4, BACK, 0)), x -> x.put(4, FRONT, 8, 0, 1, 0), BEYOND);
    }

    static void promise24_undo_takes_it_back_and_nothing_before_it() {
        takenBack(x -> x.put(0, BACK, 0, 1, 24, 1));
    }

    // ---- 25: cell

    static void promise25_a_sheet_that_is_not_there_is_NONE_ahead_of_OUTSIDE() {
        refused(x -> x.cell(4, 0, 0, 0, 0), NONE);
        refused(x -> x.cell(-1, 2, 0, 0, 0), NONE);
        refused(x -> x.cell(4, 0, 0, 0, 2), NONE);
    }

    static void promise25_a_side_below_0_or_above_1_is_OUTSIDE() {
        refused(x -> x.cell(0, -1, 0, 0, 0), OUTSIDE);
        refused(x -> x.cell(0, 2, 0, 0, 0), OUTSIDE);
    }

    static void promise25_what_below_0_or_above_1_is_OUTSIDE() {
        refused(x -> x.cell(0, FRONT, 0, 0, -1), OUTSIDE);
        refused(x -> x.cell(0, FRONT, 0, 0, 2), OUTSIDE);
        refused(x -> x.cell(0, FRONT, 0, 0, LOWEST), OUTSIDE);
        refused(x -> x.cell(0, FRONT, 0, 0, HIGHEST), OUTSIDE);
    }

    static void promise25_OUTSIDE_comes_ahead_of_BEYOND_and_BLANK() {
        refused(x -> x.cell(0, 2, 1, 0, 0), OUTSIDE);
        refused(x -> x.cell(0, FRONT, 0, 2, 2), OUTSIDE);
        refused(withTorn(), x -> x.cell(0, FRONT, 0, 0, -1), OUTSIDE);
    }

    static void promise25_a_row_that_is_not_there_is_BEYOND_ahead_of_BLANK() {
        met(x -> x.cell(0, FRONT, 1, 0, 0), BEYOND);
        met(x -> x.cell(0, FRONT, -1, 0, 0), BEYOND);
        met(x -> x.cell(0, FRONT, LOWEST, 0, 0), BEYOND);
        met(x -> x.cell(0, FRONT, HIGHEST, 0, 0), BEYOND);
        met(withTorn(), x -> x.cell(0, FRONT, 1, 0, 0), BEYOND);
        met(x -> x.cell(3, FRONT, 0, 0, 0), BEYOND);
    }

    static void promise25_a_TORN_row_is_BLANK_ahead_of_the_column_being_BEYOND() {
        met(withTorn(), x -> x.cell(0, FRONT, 0, 0, 0), BLANK);
        met(withTorn(), x -> x.cell(0, FRONT, 0, 2, 1), BLANK);
    }

    static void promise25_a_column_that_is_not_there_is_BEYOND() {
        met(x -> x.cell(0, FRONT, 0, 2, 0), BEYOND);
        met(x -> x.cell(0, FRONT, 0, -1, 0), BEYOND);
        met(x -> x.cell(0, FRONT, 0, LOWEST, 1), BEYOND);
        met(x -> x.cell(0, FRONT, 0, HIGHEST, 1), BEYOND);
    }

    static void promise25_the_first_and_the_last_cell_are_there() {
        FoldPress x = withPages();
        T.due(x.cell(2, FRONT, 0, 0, 0), 1);
        T.due(x.cell(2, BACK, 1, 1, 0), 8);
        T.due(x.cell(2, BACK, 1, 1, 1), 1);
    }

    static void promise25_it_answers_while_the_press_is_JAMMED() {
        T.due(jammedPress().cell(0, FRONT, 0, 0, 0), 0);
    }

    // ---- 26: shift

    static void promise26_a_sheet_that_is_not_there_is_NONE_ahead_of_OUTSIDE() {
        refused(x -> x.shift(4, 0, 0, 0, 1, 0, 1, 1), NONE);
        refused(x -> x.shift(0, 0, 0, 4, 1, 0, 1, 1), NONE);
        refused(x -> x.shift(-1, 2, 0, 0, 1, 0, 1, 1), NONE);
        refused(x -> x.shift(0, 0, 0, -1, 1, 0, 9, 1), NONE);
    }

    static void promise26_a_side_below_0_or_above_1_is_OUTSIDE() {
        refused(x -> x.shift(0, -1, 0, 1, 0, 0, 1, 1), OUTSIDE);
        refused(x -> x.shift(0, 2, 0, 1, 0, 0, 1, 1), OUTSIDE);
        refused(x -> x.shift(0, 0, 0, 1, -1, 0, 1, 1), OUTSIDE);
        refused(x -> x.shift(0, 0, 0, 1, 2, 0, 1, 1), OUTSIDE);
    }

    static void promise26_less_than_no_rows_are_OUTSIDE() {
        refused(x -> x.shift(0, 0, 0, 1, 0, 0, -1, 1), OUTSIDE);
        refused(x -> x.shift(0, 0, 0, 1, 0, 0, LOWEST, 1), OUTSIDE);
    }

    static void promise26_nine_rows_are_OUTSIDE() {
        refused(x -> x.shift(0, 0, 0, 1, 0, 0, 9, 1), OUTSIDE);
        refused(x -> x.shift(0, 0, 0, 1, 0, 0, HIGHEST, 1), OUTSIDE);
    }

    static void promise26_OUTSIDE_comes_ahead_of_COPY() {
        refused(x -> x.shift(0, 0, 1, 1, 2, 0, 1, -1), OUTSIDE);
        refused(x -> x.shift(3, 0, 0, 3, 0, 0, 9, 99), OUTSIDE);
    }

    static void promise26_of_0_rows_none_is_asked() {
        answers(x -> x.shift(3, 0, LOWEST, 3, 1, HIGHEST, 0, -5), 1);
        T.due(withTorn().get().shift(0, FRONT, 0, 0, FRONT, 0, 0, 99), 1);
    }

    static void promise26_eight_rows_of_eight_cells_come() {
        FoldPress x = press();
        T.due(x.sheet(0, 8, 8), 4);
        for (int row = 0; row < 8; row++) {
            x.put(4, FRONT, row, 0, row + 1, 1);
            x.put(4, FRONT, row, 7, row + 11, 0);
        }
        T.due(x.shift(4, FRONT, 0, 4, BACK, 0, 8, 8), 1);
        T.due(x.moved(), 8);
        for (int row = 0; row < 8; row++) {
            T.due(x.cell(4, BACK, row, 0, 0), row + 1);
            T.due(x.cell(4, BACK, row, 0, 1), 1);
            T.due(x.cell(4, BACK, row, 7, 0), row + 11);
        }
    }

    static void promise26_a_TORN_row_that_they_come_from_is_COPY() {
        stopped(withTorn(), x -> x.shift(0, FRONT, 0, 1, FRONT, 0, 1, 0), COPY);
    }

    static void promise26_a_TORN_row_that_they_come_to_is_COPY() {
        stopped(withTorn(), x -> x.shift(1, FRONT, 0, 0, FRONT, 0, 1, 0), COPY);
    }

    static void promise26_no_such_row_that_they_come_from_is_COPY() {
        stopped(x -> x.shift(0, FRONT, 1, 1, FRONT, 0, 1, 0), COPY);
        stopped(x -> x.shift(0, FRONT, -1, 1, FRONT, 0, 1, 0), COPY);
        stopped(x -> x.shift(0, FRONT, LOWEST, 1, FRONT, 0, 8, 0), COPY);
        stopped(x -> x.shift(0, FRONT, HIGHEST, 1, FRONT, 0, 8, 0), COPY);
        stopped(x -> x.shift(3, FRONT, 0, 1, FRONT, 0, 1, 0), COPY);
    }

    static void promise26_no_such_row_that_they_come_to_is_COPY() {
        stopped(x -> x.shift(0, FRONT, 0, 1, FRONT, 1, 1, 0), COPY);
        stopped(x -> x.shift(0, FRONT, 0, 1, FRONT, -1, 1, 0), COPY);
        stopped(x -> x.shift(0, FRONT, 0, 1, FRONT, LOWEST, 8, 0), COPY);
        stopped(x -> x.shift(0, FRONT, 0, 1, FRONT, HIGHEST, 8, 0), COPY);
        stopped(x -> x.shift(0, FRONT, 0, 3, FRONT, 0, 1, 0), COPY);
    }

    static void promise26_a_row_with_fewer_cells_that_they_come_from_is_COPY() {
        stopped(after(x -> x.sheet(0, 1, 8)), x -> x.shift(0, FRONT, 0, 4, FRONT, 0, 1, 3), COPY);
        stopped(x -> x.shift(0, FRONT, 0, 1, FRONT, 0, 1, HIGHEST), COPY);
    }

    static void promise26_a_row_with_fewer_cells_that_they_come_to_is_COPY() {
        stopped(after(x -> x.sheet(0, 1, 8)), x -> x.shift(4, FRONT, 0, 0, FRONT, 0, 1, 3), COPY);
    }

    static void promise26_less_than_no_cells_are_COPY() {
        stopped(x -> x.shift(0, FRONT, 0, 1, FRONT, 0, 1, -1), COPY);
        stopped(x -> x.shift(0, FRONT, 0, 1, FRONT, 0, 1, LOWEST), COPY);
    }

    static void promise26_all_cells_of_a_row_come_with_their_up() {
        FoldPress x = withPages();
        T.due(x.shift(2, FRONT, 1, 0, BACK, 0, 1, 2), 1);
        carries(x, 0, BACK, 3, 4);
        T.due(x.cell(0, BACK, 0, 0, 1), 0);
        T.due(x.cell(0, BACK, 0, 1, 1), 1);
    }

    static void promise26_no_cells_of_rows_that_are_there_come_as_rows() {
        FoldPress x = withPages();
        T.due(x.shift(2, FRONT, 0, 2, BACK, 0, 2, 0), 1);
        T.due(x.moved(), 2);
        carries(x, 2, BACK, 5, 6, 7, 8);
    }

    static void promise26_it_stops_where_it_fails_and_what_came_before_stays() {
        FoldPress x = withPages();
        T.due(x.shift(2, FRONT, 0, 0, FRONT, 0, 2, 1), COPY);
        T.due(x.moved(), 1);
        carries(x, 0, FRONT, 1, 10);
        T.due(x.told(0), 1);
        T.due(x.told(1), 5);
        T.due(x.undo(), 1);
        carries(x, 0, FRONT, 9, 10);
        T.due(x.told(12), 8);
    }

    static void promise26_rows_of_one_side_come_one_after_the_other() {
        FoldPress x = press();
        T.due(x.sheet(0, 3, 1), 4);
        for (int row = 0; row < 3; row++) {
            x.put(4, FRONT, row, 0, row + 1, 0);
        }
        T.due(x.shift(4, FRONT, 0, 4, FRONT, 1, 2, 1), 1);
        for (int row = 0; row < 3; row++) {
            T.due(x.cell(4, FRONT, row, 0, 0), 1);
        }
    }

    static void promise26_JAMMED_comes_ahead_of_NONE_and_OUTSIDE() {
        jammedAheadOfAll(x -> x.shift(0, 0, 0, 1, 1, 0, 1, 1), x -> x.shift(4, 0, 0, 1, 1, 0, 1, 1));
        refused(Bench::jammedPress, x -> x.shift(0, 0, 0, 1, 1, 0, 9, 1), JAMMED);
        refused(Bench::jammedPress, x -> x.shift(0, 0, 1, 1, 1, 0, 1, 1), JAMMED);
    }

    static void promise26_undo_takes_it_back_and_nothing_before_it() {
        takenBack(SheetCases::withPages, x -> x.shift(2, FRONT, 0, 0, BACK, 0, 1, 2));
    }

    // ---- 27: lay

    static void promise27_a_sheet_or_fold_that_is_not_there_is_NONE_ahead_of_OUTSIDE() {
        refused(x -> x.lay(4, HALF, 1), NONE);
        refused(x -> x.lay(-1, HALF, 0), NONE);
        refused(x -> x.lay(0, 7, 1), NONE);
        refused(x -> x.lay(0, -1, 25), NONE);
    }

    static void promise27_a_first_page_below_1_is_OUTSIDE() {
        refused(x -> x.lay(0, HALF, 0), OUTSIDE);
        refused(x -> x.lay(0, HALF, LOWEST), OUTSIDE);
    }

    static void promise27_a_first_page_above_24_is_OUTSIDE() {
        refused(x -> x.lay(0, HALF, 25), OUTSIDE);
        refused(x -> x.lay(0, HALF, HIGHEST), OUTSIDE);
    }

    static void promise27_OUTSIDE_comes_ahead_of_findings_and_begins_no_fold() {
        refused(x -> x.lay(0, THIRD, 0), OUTSIDE);
        refused(x -> x.lay(0, FLAT, 25), OUTSIDE);
        refused(withTorn(), x -> x.lay(0, HALF, 0), OUTSIDE);
    }

    static void promise27_a_sheet_that_does_not_fit_is_UNFIT() {
        stopped(x -> x.lay(0, THIRD, 1), UNFIT);
        stopped(x -> x.lay(0, ROWS, 1), UNFIT);
        stopped(x -> x.lay(2, THIRD, 1), UNFIT);
    }

    static void promise27_a_sheet_of_more_piles_than_one_is_OPEN() {
        stopped(x -> x.lay(0, FLAT, 1), OPEN);
        stopped(x -> x.lay(2, HALF, 1), OPEN);
    }

    static void promise27_a_sheet_without_cells_is_OPEN() {
        stopped(x -> x.lay(3, HALF, 1), OPEN);
        stopped(x -> x.lay(3, FLAT, 1), OPEN);
    }

    static void promise27_UNFIT_and_OPEN_come_ahead_of_BLANK() {
        stopped(withTorn(), x -> x.lay(0, THIRD, 1), UNFIT);
        stopped(withTorn(), x -> x.lay(0, FLAT, 1), OPEN);
    }

    static void promise27_a_TORN_row_at_the_first_face_is_BLANK_and_nothing_is_laid() {
        stopped(after(x -> x.tear(0, BACK, 0)), x -> x.lay(0, HALF, 1), BLANK);
    }

    static void promise27_what_was_laid_ahead_of_a_TORN_row_stays() {
        FoldPress x = press();
        x.tear(0, FRONT, 0);
        T.due(x.lay(0, HALF, 1), BLANK);
        carries(x, 0, BACK, 0, 1);
        T.due(x.undo(), 1);
        carries(x, 0, BACK, 0, 0);
        T.due(x.cell(0, FRONT, 0, 0, 0), BLANK);
    }

    static void promise27_page_24_is_laid_and_none_behind_it() {
        FoldPress x = press();
        for (int page = 4; page <= 24; page++) {
            x.page(0);
        }
        T.due(x.lay(0, HALF, 24), 4);
        carries(x, 0, BACK, 0, 24);
        carries(x, 0, FRONT, 0, 0);
    }

    static void promise27_pages_that_the_job_has_not_are_0() {
        FoldPress x = press();
        x.put(0, BACK, 0, 0, 9, 1);
        T.due(x.lay(0, HALF, 1), 4);
        carries(x, 0, BACK, 0, 1);
        carries(x, 0, FRONT, 3, 2);
        T.due(x.cell(0, BACK, 0, 0, 1), 0);
    }

    static void promise27_cells_of_page_0_get_the_up_of_their_face_too() {
        FoldPress x = press();
        T.due(x.sheet(1, 2, 1), 4);
        T.due(x.lay(4, ROWS, 1), 4);
        T.due(x.cell(4, BACK, 1, 0, 0), 0);
        T.due(x.cell(4, BACK, 1, 0, 1), 1);
        T.due(x.cell(4, FRONT, 1, 0, 1), 1);
        T.due(x.cell(4, FRONT, 0, 0, 1), 0);
    }

    static void promise27_the_most_faces_are_128() {
        FoldPress x = press();
        T.due(x.cross(CROSS, CROSS), 7);
        T.due(x.cross(7, CROSS), 8);
        T.due(x.sheet(0, 8, 8), 4);
        T.due(x.put(4, FRONT, 0, 0, 24, 1), 1);
        T.due(x.lay(4, 8, 1), 128);
        T.due(x.cell(4, FRONT, 0, 0, 0), 0);
        T.due(x.read(4, 8, 0), 1);
        T.due(x.read(4, 8, 2), 3);
        T.due(x.undo(), 1);
        T.due(x.cell(4, FRONT, 0, 0, 0), 24);
        T.due(x.read(4, 8, 0), 0);
    }

    static void promise27_JAMMED_comes_ahead_of_NONE_and_OUTSIDE() {
        jammedAheadOfAll(x -> x.lay(0, HALF, 1), x -> x.lay(4, HALF, 1));
        refused(Bench::jammedPress, x -> x.lay(0, HALF, 0), JAMMED);
        refused(Bench::jammedPress, x -> x.lay(0, THIRD, 1), JAMMED);
    }

    static void promise27_undo_takes_it_back_and_nothing_before_it() {
        takenBack(x -> x.lay(0, HALF, 1));
    }

    // ---- 28: read

    static void promise28_a_sheet_or_fold_that_is_not_there_is_NONE() {
        refused(x -> x.read(4, HALF, 0), NONE);
        refused(x -> x.read(-1, HALF, 0), NONE);
        refused(x -> x.read(0, 7, 0), NONE);
        refused(x -> x.read(0, -1, -1), NONE);
    }

    static void promise28_UNFIT_comes_ahead_of_BEYOND_and_BLANK() {
        met(x -> x.read(0, THIRD, 0), UNFIT);
        met(x -> x.read(0, THIRD, -1), UNFIT);
        met(withTorn(), x -> x.read(0, ROWS, 0), UNFIT);
    }

    static void promise28_OPEN_comes_ahead_of_BEYOND_and_BLANK() {
        met(x -> x.read(0, FLAT, 0), OPEN);
        met(x -> x.read(3, FLAT, 0), OPEN);
        met(x -> x.read(0, FLAT, 99), OPEN);
        met(withTorn(), x -> x.read(0, FLAT, 0), OPEN);
    }

    static void promise28_a_face_below_0_or_behind_the_last_is_BEYOND_ahead_of_BLANK() {
        met(x -> x.read(0, HALF, -1), BEYOND);
        met(x -> x.read(0, HALF, 4), BEYOND);
        met(x -> x.read(0, HALF, LOWEST), BEYOND);
        met(x -> x.read(0, HALF, HIGHEST), BEYOND);
        met(withTorn(), x -> x.read(0, HALF, 4), BEYOND);
    }

    static void promise28_a_face_in_a_TORN_row_is_BLANK_and_no_other() {
        met(withTorn(), x -> x.read(0, HALF, 1), BLANK);
        met(withTorn(), x -> x.read(0, HALF, 2), BLANK);
        T.due(withTorn().get().read(0, HALF, 0), 0);
        T.due(withTorn().get().read(0, HALF, 3), 0);
    }

    static void promise28_a_cell_without_page_is_0() {
        answers(x -> x.read(0, HALF, 0), 0);
    }

    static void promise28_the_first_and_the_last_face_are_there() {
        FoldPress x = press();
        T.due(x.put(0, BACK, 0, 1, 24, 1), 1);
        T.due(x.put(0, BACK, 0, 0, 23, 0), 1);
        T.due(x.read(0, HALF, 0), 24);
        T.due(x.read(0, HALF, 3), 23);
    }

    static void promise28_every_face_of_every_sheet_is_its_own() {
        FoldPress x = press();
        for (int n = 0; n < 8; n++) {
            x.put(n / 4, n / 2 % 2, 0, n % 2, n + 1, 0);
        }
        int[] pages = {4, 2, 1, 3};
        for (int k = 0; k < 4; k++) {
            T.due(x.read(0, HALF, k), pages[k]);
            T.due(x.read(1, HALF, k), 4 + pages[k]);
        }
    }

    static void promise28_it_answers_while_the_press_is_JAMMED() {
        T.due(jammedPress().read(0, HALF, 0), 0);
    }

    // ---- 29: seen, and part 3 of the Terms

    /** press(), with page 1 on the front of sheet 0, as it stands and then the other way up. */
    private static FoldPress printed() {
        FoldPress x = press();
        x.put(0, FRONT, 0, 0, 1, 0);
        x.put(0, FRONT, 0, 1, 1, 1);
        x.margin(8);
        return x;
    }

    static void promise29_a_sheet_that_is_not_there_is_NONE_ahead_of_OUTSIDE() {
        refused(x -> x.seen(4, 0, 0, 0, 0, 0), NONE);
        refused(x -> x.seen(-1, 2, 0, 0, 0, 0), NONE);
    }

    static void promise29_a_side_below_0_or_above_1_is_OUTSIDE_ahead_of_findings() {
        refused(x -> x.seen(0, -1, 0, 0, 0, 0), OUTSIDE);
        refused(x -> x.seen(0, 2, 1, 0, 0, 0), OUTSIDE);
        refused(x -> x.seen(0, HIGHEST, 0, 2, 0, 0), OUTSIDE);
    }

    static void promise29_a_row_of_the_sheet_that_is_not_there_is_BEYOND() {
        met(x -> x.seen(0, FRONT, 1, 0, 0, 0), BEYOND);
        met(x -> x.seen(0, FRONT, -1, 0, 0, 0), BEYOND);
        met(x -> x.seen(3, FRONT, 0, 0, 0, 0), BEYOND);
    }

    static void promise29_a_TORN_row_is_BLANK_ahead_of_the_column_being_BEYOND() {
        met(withTorn(), x -> x.seen(0, FRONT, 0, 0, 0, 0), BLANK);
        met(withTorn(), x -> x.seen(0, FRONT, 0, 2, 0, 0), BLANK);
    }

    static void promise29_a_column_that_is_not_there_is_BEYOND() {
        met(x -> x.seen(0, FRONT, 0, 2, 0, 0), BEYOND);
        met(x -> x.seen(0, FRONT, 0, -1, 0, 0), BEYOND);
    }

    static void promise29_a_cell_without_page_is_BLANK() {
        met(x -> x.seen(0, FRONT, 0, 0, 0, 0), BLANK);
        met(x -> x.seen(0, FRONT, 0, 0, -1, 99), BLANK);
    }

    static void promise29_a_page_that_the_job_has_not_is_BLANK() {
        met(after(x -> x.put(0, FRONT, 0, 0, 4, 0)), x -> x.seen(0, FRONT, 0, 0, 0, 0), BLANK);
        met(after(x -> x.put(0, FRONT, 0, 0, 24, 0)), x -> x.seen(0, FRONT, 0, 0, -1, 0), BLANK);
    }

    static void promise29_a_page_that_another_job_has_is_BLANK() {
        FoldPress x = press();
        T.due(x.sheet(1, 1, 1), 4);
        T.due(x.put(4, FRONT, 0, 0, 1, 0), 1);
        T.due(x.seen(4, FRONT, 0, 0, 0, 0), BLANK);
    }

    static void promise29_a_BLANK_page_is_BLANK_ahead_of_its_row_being_BEYOND() {
        met(after(x -> x.put(0, FRONT, 0, 0, 2, 0)), x -> x.seen(0, FRONT, 0, 0, 0, 0), BLANK);
        met(after(x -> x.put(0, FRONT, 0, 0, 2, 0)), x -> x.seen(0, FRONT, 0, 0, 99, 0), BLANK);
    }

    static void promise29_a_row_of_the_page_that_is_not_there_is_BEYOND() {
        met(SheetCases::printed, x -> x.seen(0, FRONT, 0, 0, 3, 0), BEYOND);
        met(SheetCases::printed, x -> x.seen(0, FRONT, 0, 0, -1, 0), BEYOND);
        met(SheetCases::printed, x -> x.seen(0, FRONT, 0, 0, LOWEST, 0), BEYOND);
        met(SheetCases::printed, x -> x.seen(0, FRONT, 0, 0, HIGHEST, 0), BEYOND);
    }

    static void promise29_a_MISSING_row_is_BLANK_ahead_of_the_letter_being_BEYOND() {
        met(SheetCases::printed, x -> x.seen(0, FRONT, 0, 0, 2, 0), BLANK);
        met(SheetCases::printed, x -> x.seen(0, FRONT, 0, 0, 2, -1), BLANK);
        met(SheetCases::printed, x -> x.seen(0, FRONT, 0, 1, 1, 99), BLANK);
    }

    static void promise29_a_letter_that_is_not_there_is_BEYOND() {
        met(SheetCases::printed, x -> x.seen(0, FRONT, 0, 0, 0, 5), BEYOND);
        met(SheetCases::printed, x -> x.seen(0, FRONT, 0, 0, 0, -1), BEYOND);
        met(SheetCases::printed, x -> x.seen(0, FRONT, 0, 0, 1, 3), BEYOND);
        met(SheetCases::printed, x -> x.seen(0, FRONT, 0, 0, 0, LOWEST), BEYOND);
        met(SheetCases::printed, x -> x.seen(0, FRONT, 0, 0, 0, HIGHEST), BEYOND);
    }

    static void promise29_the_first_and_the_last_letter_are_seen() {
        FoldPress x = printed();
        T.due(x.seen(0, FRONT, 0, 0, 0, 0), 'A');
        T.due(x.seen(0, FRONT, 0, 0, 0, 4), 'E');
        T.due(x.seen(0, FRONT, 0, 0, 1, 2), 'H');
    }

    static void promise29_it_answers_while_the_press_is_JAMMED() {
        T.due(jammedPress().seen(0, FRONT, 0, 0, 0, 0), BLANK);
    }

    static void term3_the_other_way_up_the_last_line_and_place_of_the_format_come_first() {
        FoldPress x = printed();
        T.due(x.seen(0, FRONT, 0, 1, 3, 4), 'A');
        T.due(x.seen(0, FRONT, 0, 1, 3, 0), 'E');
        T.due(x.seen(0, FRONT, 0, 1, 2, 2), 'H');
    }

    static void term3_the_other_way_up_lines_and_places_outside_the_page_are_BEYOND() {
        met(SheetCases::printed, x -> x.seen(0, FRONT, 0, 1, 0, 0), BEYOND);
        met(SheetCases::printed, x -> x.seen(0, FRONT, 0, 1, 4, 0), BEYOND);
        met(SheetCases::printed, x -> x.seen(0, FRONT, 0, 1, 3, 5), BEYOND);
        met(SheetCases::printed, x -> x.seen(0, FRONT, 0, 1, 3, -1), BEYOND);
        met(SheetCases::printed, x -> x.seen(0, FRONT, 0, 1, 2, 1), BEYOND);
    }

    static void term3_the_other_way_up_wild_lines_and_places_do_not_wrap_around() {
        met(SheetCases::printed, x -> x.seen(0, FRONT, 0, 1, LOWEST, 0), BEYOND);
        met(SheetCases::printed, x -> x.seen(0, FRONT, 0, 1, HIGHEST, 0), BEYOND);
        met(SheetCases::printed, x -> x.seen(0, FRONT, 0, 1, 3, LOWEST), BEYOND);
        met(SheetCases::printed, x -> x.seen(0, FRONT, 0, 1, 3, HIGHEST), BEYOND);
    }

    static void term3_the_other_way_up_goes_by_the_format_that_is_now() {
        FoldPress x = printed();
        T.due(x.cut(0, 8, 10), 1);
        T.due(x.seen(0, FRONT, 0, 1, 7, 9), 'A');
        T.due(x.cut(0, 1, 1), 1);
        T.due(x.seen(0, FRONT, 0, 1, 0, 0), 'A');
        T.due(x.seen(0, FRONT, 0, 1, 1, 0), BEYOND);
    }

    static void term3_the_other_way_up_of_a_format_of_0_the_first_line_is_BEYOND() {
        FoldPress x = printed();
        T.due(x.cut(0, 0, 0), 1);
        T.due(x.rows(0, 1, 1), 1);
        T.due(x.row(0, 1, 0, 1), 1);
        T.due(x.seen(0, FRONT, 0, 0, 0, 0), ' ');
        T.due(x.seen(0, FRONT, 0, 1, 0, 0), BEYOND);
        T.due(x.seen(0, FRONT, 0, 1, -1, 0), BEYOND);
        T.due(x.seen(0, FRONT, 0, 1, -1, -1), ' ');
    }

    static void term3_cells_have_no_page_and_lie_as_they_stand_at_first() {
        FoldPress x = press();
        carries(x, 2, FRONT, 0, 0, 0, 0);
        carries(x, 2, BACK, 0, 0, 0, 0);
        T.due(x.cell(2, BACK, 1, 1, 1), 0);
    }

    static void term3_no_row_is_TORN_at_first() {
        FoldPress x = press();
        T.due(x.put(2, FRONT, 0, 0, 1, 0), 1);
        T.due(x.put(2, BACK, 1, 1, 1, 0), 1);
    }
}
