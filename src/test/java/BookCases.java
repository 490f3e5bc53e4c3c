import java.util.function.Supplier;

/** The boundary cases of promises 30 to 38 and of part 4 of the Terms: signatures, the book. */
final class BookCases extends Bench {
    private static final int FRONT = 0, BACK = 1;

    /** press(), with 8 sheets of two cells in a row but for sheets 2 and 3; sheets 4 to 7 are in signature 1. */
    private static FoldPress withFullSignature() {
        FoldPress x = press();
        for (int sheet = 4; sheet < 8; sheet++) {
            T.due(x.sheet(0, 1, 2), sheet);
            T.due(x.gather(1, sheet), sheet - 3);
        }
        x.margin(8);
        return x;
    }

    /** press(), with sheets 0 and 1 in a signature and that in the book. */
    private static Supplier<FoldPress> withBook(int signature) {
        return after(x -> x.gather(signature, 0), x -> x.gather(signature, 1), x -> x.add(signature));
    }

    /** press(), with sheets 0 and 2 in signature 0 and that in the book; they fold by no fold alike. */
    private static Supplier<FoldPress> withOddBook() {
        return after(x -> x.gather(0, 0), x -> x.gather(0, 2), x -> x.add(0));
    }

    // ---- 30: signature

    static void promise30_a_way_below_0_or_above_1_is_OUTSIDE() {
        refused(x -> x.signature(-1), OUTSIDE);
        refused(x -> x.signature(2), OUTSIDE);
        refused(x -> x.signature(LOWEST), OUTSIDE);
        refused(x -> x.signature(HIGHEST), OUTSIDE);
    }

    static void promise30_numbers_go_from_0_to_3() {
        FoldPress x = new FoldPress();
        for (int signature = 0; signature <= 3; signature++) {
            T.due(x.signature(signature % 2), signature);
        }
        T.due(x.told(10), 4);
        T.due(x.good(3), 0);
    }

    static void promise30_a_fifth_signature_is_FULL() {
        refused(after(x -> x.signature(0), x -> x.signature(1)), x -> x.signature(0), FULL);
    }

    static void promise30_OUTSIDE_comes_ahead_of_FULL() {
        refused(after(x -> x.signature(0), x -> x.signature(1)), x -> x.signature(2), OUTSIDE);
    }

    static void promise30_a_new_signature_has_no_sheets() {
        FoldPress x = press();
        T.due(x.signature(INSIDE), 2);
        T.due(x.creep(2, HALF, 0), BEYOND);
        T.due(x.bind(2, HALF, 1), 0);
        T.due(x.good(2), 0);
    }

    static void promise30_JAMMED_comes_ahead_of_OUTSIDE() {
        jammedAheadOfAll(x -> x.signature(0), x -> x.signature(2));
    }

    static void promise30_undo_takes_it_back_and_nothing_before_it() {
        takenBack(x -> x.signature(1));
    }

    // ---- 31: gather

    static void promise31_a_signature_or_sheet_that_is_not_there_is_NONE() {
        refused(x -> x.gather(2, 0), NONE);
        refused(x -> x.gather(-1, 0), NONE);
        refused(x -> x.gather(0, 4), NONE);
        refused(x -> x.gather(0, -1), NONE);
        refused(x -> x.gather(HIGHEST, LOWEST), NONE);
    }

    static void promise31_NONE_comes_ahead_of_BUSY_and_FULL() {
        refused(after(x -> x.gather(0, 0)), x -> x.gather(2, 0), NONE);
        refused(BookCases::withFullSignature, x -> x.gather(1, 8), NONE);
    }

    static void promise31_a_sheet_in_the_same_signature_is_BUSY() {
        refused(after(x -> x.gather(0, 0)), x -> x.gather(0, 0), BUSY);
    }

    static void promise31_a_sheet_in_another_signature_is_BUSY() {
        refused(after(x -> x.gather(0, 0)), x -> x.gather(1, 0), BUSY);
    }

    static void promise31_BUSY_comes_ahead_of_FULL() {
        refused(BookCases::withFullSignature, x -> x.gather(1, 4), BUSY);
    }

    static void promise31_a_fourth_sheet_is_gathered() {
        FoldPress x = withFullSignature();
        T.due(x.creep(1, HALF, 3), 6);
        T.due(x.told(0), 0);
    }

    static void promise31_a_fifth_sheet_is_FULL() {
        refused(BookCases::withFullSignature, x -> x.gather(1, 0), FULL);
    }

    static void promise31_a_sheet_without_cells_is_gathered() {
        answers(x -> x.gather(0, 3), 1);
    }

    static void promise31_undo_sets_the_sheet_free() {
        FoldPress x = press();
        T.due(x.gather(0, 0), 1);
        T.due(x.undo(), 1);
        T.due(x.gather(1, 0), 1);
        T.due(x.gather(0, 1), 1);
    }

    static void promise31_JAMMED_comes_ahead_of_NONE() {
        jammedAheadOfAll(x -> x.gather(0, 0), x -> x.gather(2, 0));
    }

    static void promise31_the_last_signature_holds_four_sheets_beside_the_others() {
        FoldPress x = press();
        x.signature(BEHIND);
        x.signature(INSIDE);
        for (int sheet = 4; sheet < 8; sheet++) {
            x.sheet(0, 1, 2);
        }
        T.due(x.gather(2, 0), 1);
        T.due(x.gather(2, 1), 2);
        for (int sheet = 7; sheet >= 4; sheet--) {
            T.due(x.gather(3, sheet), 8 - sheet);
        }
        T.due(x.gather(0, 2), 1);
        T.due(x.leaf(2, HALF, 0, 0), 0);
        T.due(x.leaf(2, HALF, 7, 0), 1);
        T.due(x.leaf(3, HALF, 0, 0), 7);
        T.due(x.leaf(3, HALF, 6, 0), 4);
        T.due(x.leaf(3, HALF, 15, 0), 7);
        T.due(x.creep(3, HALF, 3), 6);
        T.due(x.creep(0, HALF, 1), BEYOND);
    }

    static void promise31_undo_takes_it_back_and_nothing_before_it() {
        takenBack(x -> x.gather(0, 0));
    }

    // ---- 32: bind

    static void promise32_a_signature_or_fold_that_is_not_there_is_NONE_ahead_of_OUTSIDE() {
        refused(x -> x.bind(2, HALF, 1), NONE);
        refused(x -> x.bind(-1, HALF, 0), NONE);
        refused(x -> x.bind(0, 7, 1), NONE);
        refused(x -> x.bind(0, -1, 25), NONE);
    }

    static void promise32_a_first_page_below_1_or_above_24_is_OUTSIDE() {
        refused(x -> x.bind(0, HALF, 0), OUTSIDE);
        refused(x -> x.bind(0, HALF, 25), OUTSIDE);
        refused(x -> x.bind(0, HALF, LOWEST), OUTSIDE);
        refused(x -> x.bind(0, HALF, HIGHEST), OUTSIDE);
    }

    static void promise32_OUTSIDE_comes_ahead_of_findings_and_begins_no_fold() {
        refused(withBook(0), x -> x.bind(0, THIRD, 0), OUTSIDE);
        refused(withBook(0), x -> x.bind(0, FLAT, 25), OUTSIDE);
    }

    static void promise32_without_sheets_it_is_0_and_no_fold_begins() {
        FoldPress x = press();
        T.due(x.bind(0, HALF, 1), 0);
        T.due(x.bind(1, THIRD, 24), 0);
        T.due(x.told(6), 0);
    }

    static void promise32_a_sheet_that_does_not_fit_is_UNFIT_and_nothing_is_laid() {
        stopped(withBook(0), x -> x.bind(0, THIRD, 1), UNFIT);
        stopped(withOddBook(), x -> x.bind(0, ROWS, 1), UNFIT);
    }

    static void promise32_a_sheet_that_stays_OPEN_behind_one_that_folds_stops_all() {
        stopped(withOddBook(), x -> x.bind(0, HALF, 1), OPEN);
        stopped(after(x -> x.gather(1, 0), x -> x.gather(1, 3)), x -> x.bind(1, HALF, 1), OPEN);
    }

    static void promise32_the_first_sheet_that_fails_tells_the_finding() {
        FoldPress x = press();
        x.gather(0, 2);
        x.gather(0, 0);
        T.due(x.bind(0, ROWS, 1), OPEN);
        T.due(x.told(6), 1);
        FoldPress y = press();
        y.gather(0, 0);
        y.gather(0, 2);
        T.due(y.bind(0, ROWS, 1), UNFIT);
        T.due(y.told(6), 1);
    }

    static void promise32_all_sheets_are_folded_ahead_of_BLANK() {
        stopped(after(x -> x.gather(0, 0), x -> x.tear(0, BACK, 0), x -> x.gather(0, 2)), x -> x.bind(0, HALF, 1),
            OPEN);
    }

    static void promise32_a_TORN_row_at_the_first_face_is_BLANK_and_nothing_is_laid() {
        stopped(after(x -> x.gather(0, 0), x -> x.gather(0, 1), x -> x.tear(0, BACK, 0)), x -> x.bind(0, HALF, 1),
            BLANK);
    }

    static void promise32_what_was_laid_BEHIND_ahead_of_a_TORN_row_stays() {
        FoldPress x = withBook(0).get();
        x.tear(1, FRONT, 0);
        T.due(x.page(0), 4);
        T.due(x.page(0), 5);
        T.due(x.bind(0, HALF, 1), BLANK);
        carries(x, 0, FRONT, 3, 2);
        carries(x, 0, BACK, 4, 1);
        carries(x, 1, BACK, 0, 5);
        T.due(x.undo(), 1);
        carries(x, 0, FRONT, 0, 0);
        carries(x, 1, BACK, 0, 0);
    }

    static void promise32_what_was_laid_INSIDE_ahead_of_a_TORN_row_stays() {
        FoldPress x = withBook(1).get();
        x.tear(1, FRONT, 0);
        T.due(x.bind(1, HALF, 1), BLANK);
        carries(x, 0, BACK, 0, 1);
        carries(x, 0, FRONT, 0, 2);
        carries(x, 1, BACK, 0, 3);
    }

    static void promise32_four_sheets_of_8_by_8_are_laid_and_undone() {
        FoldPress x = new FoldPress();
        x.job(1, 1);
        for (int page = 1; page <= 24; page++) {
            x.page(0);
        }
        x.fold(HALF, BY_COLUMNS);
        x.fold(HALF, BY_ROWS);
        x.cross(0, 1);
        x.cross(2, 2);
        x.cross(3, 2);
        x.signature(BEHIND);
        for (int sheet = 0; sheet < 4; sheet++) {
            x.sheet(0, 8, 8);
            x.gather(0, sheet);
            x.put(sheet, FRONT, 0, 0, 20 + sheet, 1);
            x.put(sheet, BACK, 7, 7, 10 + sheet, 1);
        }
        T.due(x.bind(0, 4, 1), 512);
        T.due(x.read(0, 4, 23), 24);
        T.due(x.read(0, 4, 24), 0);
        T.due(x.cell(3, FRONT, 0, 0, 0), 0);
        T.due(x.cell(3, BACK, 7, 7, 0), 0);
        T.due(x.undo(), 1);
        for (int sheet = 0; sheet < 4; sheet++) {
            T.due(x.cell(sheet, FRONT, 0, 0, 0), 20 + sheet);
            T.due(x.cell(sheet, FRONT, 0, 0, 1), 1);
            T.due(x.cell(sheet, BACK, 7, 7, 0), 10 + sheet);
            T.due(x.cell(sheet, BACK, 7, 7, 1), 1);
            T.due(x.cell(sheet, FRONT, 7, 7, 0), 0);
            T.due(x.cell(sheet, FRONT, 7, 7, 1), 0);
        }
    }

    static void promise32_each_sheets_own_job_is_asked_for_the_page() {
        FoldPress x = press();
        x.page(1);
        T.due(x.sheet(1, 1, 2), 4);
        x.gather(0, 4);
        x.gather(0, 0);
        T.due(x.bind(0, HALF, 1), 8);
        carries(x, 4, FRONT, 0, 0);
        carries(x, 4, BACK, 0, 1);
        carries(x, 0, FRONT, 0, 0);
        FoldPress y = press();
        y.page(1);
        y.sheet(1, 1, 2);
        y.gather(1, 0);
        y.gather(1, 4);
        T.due(y.bind(1, HALF, 1), 8);
        carries(y, 0, FRONT, 0, 2);
        carries(y, 4, BACK, 0, 0);
    }

    static void promise32_page_24_is_laid_and_none_behind_it() {
        FoldPress x = withBook(0).get();
        for (int page = 4; page <= 24; page++) {
            x.page(0);
        }
        T.due(x.bind(0, HALF, 24), 8);
        carries(x, 0, BACK, 0, 24);
        carries(x, 0, FRONT, 0, 0);
        carries(x, 1, BACK, 0, 0);
    }

    static void promise32_JAMMED_comes_ahead_of_NONE_and_OUTSIDE() {
        jammedAheadOfAll(x -> x.bind(0, HALF, 1), x -> x.bind(2, HALF, 1));
        refused(Bench::jammedPress, x -> x.bind(0, HALF, 0), JAMMED);
    }

    static void promise32_undo_takes_it_back_and_nothing_before_it() {
        takenBack(withBook(0), x -> x.bind(0, HALF, 1));
    }

    // ---- 33: leaf

    static void promise33_a_signature_or_fold_that_is_not_there_is_NONE_ahead_of_OUTSIDE() {
        refused(x -> x.leaf(2, HALF, 0, 0), NONE);
        refused(x -> x.leaf(-1, HALF, 0, 2), NONE);
        refused(x -> x.leaf(0, 7, 0, 0), NONE);
        refused(x -> x.leaf(0, -1, 0, -1), NONE);
    }

    static void promise33_what_below_0_or_above_1_is_OUTSIDE_ahead_of_findings() {
        refused(withBook(0), x -> x.leaf(0, HALF, 0, -1), OUTSIDE);
        refused(withBook(0), x -> x.leaf(0, HALF, 0, 2), OUTSIDE);
        refused(withBook(0), x -> x.leaf(0, THIRD, 0, LOWEST), OUTSIDE);
        refused(withBook(0), x -> x.leaf(0, HALF, 99, HIGHEST), OUTSIDE);
    }

    static void promise33_UNFIT_and_OPEN_come_ahead_of_BEYOND() {
        met(withBook(0), x -> x.leaf(0, THIRD, 99, 0), UNFIT);
        met(withBook(1), x -> x.leaf(1, FLAT, -1, 0), OPEN);
        met(withOddBook(), x -> x.leaf(0, HALF, 0, 0), OPEN);
        met(withOddBook(), x -> x.leaf(0, ROWS, 0, 0), UNFIT);
    }

    static void promise33_a_face_below_0_or_behind_the_last_is_BEYOND() {
        for (int way = BEHIND; way <= INSIDE; way++) {
            int signature = way;
            met(withBook(way), x -> x.leaf(signature, HALF, -1, 0), BEYOND);
            met(withBook(way), x -> x.leaf(signature, HALF, 8, 0), BEYOND);
            met(withBook(way), x -> x.leaf(signature, HALF, LOWEST, 1), BEYOND);
            met(withBook(way), x -> x.leaf(signature, HALF, HIGHEST, 1), BEYOND);
        }
    }

    static void promise33_every_face_of_a_signature_without_sheets_is_BEYOND() {
        met(x -> x.leaf(0, HALF, 0, 0), BEYOND);
        met(x -> x.leaf(1, THIRD, 0, 1), BEYOND);
    }

    static void promise33_the_first_and_the_last_face_are_there() {
        FoldPress x = withBook(0).get();
        T.due(x.leaf(0, HALF, 0, 0), 0);
        T.due(x.leaf(0, HALF, 0, 1), 0);
        T.due(x.leaf(0, HALF, 7, 0), 1);
        T.due(x.leaf(0, HALF, 7, 1), 3);
        FoldPress y = withBook(1).get();
        T.due(y.leaf(1, HALF, 0, 0), 0);
        T.due(y.leaf(1, HALF, 0, 1), 0);
        T.due(y.leaf(1, HALF, 7, 0), 0);
        T.due(y.leaf(1, HALF, 7, 1), 3);
    }

    static void promise33_a_TORN_row_is_no_matter() {
        T.due(after(x -> x.gather(0, 0), x -> x.tear(0, FRONT, 0)).get().leaf(0, HALF, 1, 1), 1);
    }

    static void promise33_it_answers_while_the_press_is_JAMMED() {
        T.due(jammedPress().leaf(0, HALF, 0, 0), BEYOND);
    }

    // ---- 34: creep

    static void promise34_a_signature_or_fold_that_is_not_there_is_NONE_ahead_of_BEYOND() {
        refused(x -> x.creep(2, HALF, 0), NONE);
        refused(x -> x.creep(-1, HALF, -1), NONE);
        refused(x -> x.creep(0, 7, 0), NONE);
        refused(x -> x.creep(0, -1, 9), NONE);
    }

    static void promise34_a_sheet_below_0_or_behind_the_last_is_BEYOND_by_both_ways() {
        for (int way = BEHIND; way <= INSIDE; way++) {
            int signature = way;
            met(withBook(way), x -> x.creep(signature, HALF, -1), BEYOND);
            met(withBook(way), x -> x.creep(signature, HALF, 2), BEYOND);
            met(withBook(way), x -> x.creep(signature, HALF, LOWEST), BEYOND);
            met(withBook(way), x -> x.creep(signature, HALF, HIGHEST), BEYOND);
        }
    }

    static void promise34_every_sheet_of_a_signature_without_any_is_BEYOND() {
        met(x -> x.creep(0, HALF, 0), BEYOND);
        met(x -> x.creep(1, HALF, 0), BEYOND);
    }

    static void promise34_BEHIND_no_sheet_creeps() {
        FoldPress x = withBook(0).get();
        T.due(x.creep(0, SHUT, 0), 0);
        T.due(x.creep(0, SHUT, 1), 0);
    }

    static void promise34_INSIDE_the_first_sheet_does_not_creep_and_the_fourth_most() {
        FoldPress x = withFullSignature();
        for (int i = 0; i < 4; i++) {
            T.due(x.creep(1, THIRD, i), 3 * i);
        }
        T.due(x.creep(1, THIRD, 4), BEYOND);
    }

    static void promise34_sheets_that_do_not_fit_the_fold_creep_and_none_is_folded() {
        FoldPress x = withFullSignature();
        T.due(x.creep(1, THIRD, 1), 3);
        T.due(x.creep(1, FLAT, 3), 3);
        T.due(x.told(6), 0);
    }

    static void promise34_the_most_is_three_times_eight_SHUTS() {
        FoldPress x = withFullSignature();
        x.cross(SHUT, SHUT);
        x.cross(7, 7);
        x.cross(8, 8);
        T.due(x.creep(1, 9, 3), 3 * 65536);
    }

    // ---- 35: add

    static void promise35_a_signature_that_is_not_there_is_NONE() {
        refused(x -> x.add(2), NONE);
        refused(x -> x.add(-1), NONE);
        refused(x -> x.add(LOWEST), NONE);
        refused(x -> x.add(HIGHEST), NONE);
    }

    static void promise35_a_signature_that_is_in_the_book_is_BUSY() {
        refused(after(x -> x.add(0)), x -> x.add(0), BUSY);
        refused(after(x -> x.add(1), x -> x.add(0)), x -> x.add(1), BUSY);
    }

    static void promise35_all_four_come_in_any_order() {
        FoldPress x = press();
        x.signature(0);
        x.signature(1);
        T.due(x.add(3), 1);
        T.due(x.add(1), 2);
        T.due(x.add(0), 3);
        T.due(x.add(2), 4);
        T.due(x.told(11), 4);
    }

    static void promise35_a_signature_without_sheets_is_added() {
        answers(x -> x.add(1), 1);
    }

    static void promise35_a_signature_gets_sheets_when_it_is_in_the_book_already() {
        FoldPress x = press();
        x.add(0);
        T.due(x.gather(0, 0), 1);
        T.due(x.pageAt(HALF, 3), 0);
        T.due(x.pageAt(HALF, 4), BEYOND);
    }

    static void promise35_undo_takes_it_out_of_the_book() {
        FoldPress x = press();
        T.due(x.add(0), 1);
        T.due(x.undo(), 1);
        T.due(x.told(11), 0);
        T.due(x.add(0), 1);
    }

    static void promise35_JAMMED_comes_ahead_of_NONE() {
        jammedAheadOfAll(x -> x.add(0), x -> x.add(2));
    }

    static void promise35_undo_takes_it_back_and_nothing_before_it() {
        takenBack(x -> x.add(1));
    }

    // ---- 36: cover

    static void promise36_a_sheet_that_is_not_there_is_NONE() {
        refused(x -> x.cover(4), NONE);
        refused(x -> x.cover(-2), NONE);
        refused(x -> x.cover(LOWEST), NONE);
        refused(x -> x.cover(HIGHEST), NONE);
    }

    static void promise36_minus_1_takes_the_cover_away() {
        FoldPress x = press();
        T.due(x.cover(0), 1);
        T.due(x.wrap(HALF, 0), 0);
        T.due(x.cover(-1), 1);
        T.due(x.wrap(HALF, 0), BLANK);
    }

    static void promise36_minus_1_is_no_fault_where_the_cover_lacks_already() {
        FoldPress x = new FoldPress();
        T.due(x.cover(-1), 1);
        T.due(x.told(0), 0);
        T.due(x.undo(), 1);
    }

    static void promise36_a_sheet_in_a_signature_may_be_the_cover() {
        FoldPress x = withBook(0).get();
        T.due(x.cover(0), 1);
        T.due(x.wrap(HALF, 0), 0);
    }

    static void promise36_JAMMED_comes_ahead_of_NONE() {
        jammedAheadOfAll(x -> x.cover(0), x -> x.cover(4));
        refused(Bench::jammedPress, x -> x.cover(-1), JAMMED);
    }

    static void promise36_undo_takes_it_back_and_nothing_before_it() {
        takenBack(x -> x.cover(0));
    }

    // ---- 37: pageAt

    static void promise37_a_fold_that_is_not_there_is_NONE() {
        refused(x -> x.pageAt(7, 0), NONE);
        refused(x -> x.pageAt(-1, 0), NONE);
        refused(x -> x.pageAt(HIGHEST, -1), NONE);
    }

    static void promise37_every_face_of_an_empty_book_is_BEYOND() {
        met(x -> x.pageAt(HALF, 0), BEYOND);
        met(x -> x.pageAt(THIRD, -1), BEYOND);
    }

    static void promise37_every_face_of_a_book_of_empty_signatures_is_BEYOND() {
        met(after(x -> x.add(0), x -> x.add(1)), x -> x.pageAt(HALF, 0), BEYOND);
    }

    static void promise37_UNFIT_and_OPEN_come_ahead_of_BEYOND_and_BLANK() {
        met(withBook(0), x -> x.pageAt(THIRD, 99), UNFIT);
        met(withBook(0), x -> x.pageAt(FLAT, -1), OPEN);
        met(withOddBook(), x -> x.pageAt(HALF, 0), OPEN);
        met(after(x -> x.gather(0, 0), x -> x.tear(0, BACK, 0), x -> x.add(0)), x -> x.pageAt(THIRD, 0), UNFIT);
    }

    static void promise37_all_signatures_are_folded_even_behind_the_face() {
        FoldPress x = press();
        x.gather(0, 0);
        x.gather(1, 2);
        x.add(0);
        x.add(1);
        T.due(x.pageAt(HALF, 0), OPEN);
        T.due(x.told(6), 2);
        FoldPress y = press();
        y.gather(0, 0);
        y.gather(1, 1);
        y.add(1);
        y.add(0);
        T.due(y.pageAt(HALF, 0), 0);
        T.due(y.told(6), 2);
    }

    static void promise37_the_first_sheet_that_fails_ends_the_folding() {
        FoldPress x = withBook(0).get();
        T.due(x.pageAt(THIRD, 0), UNFIT);
        T.due(x.told(6), 1);
    }

    static void promise37_a_face_below_0_or_behind_the_last_is_BEYOND() {
        met(withBook(0), x -> x.pageAt(HALF, -1), BEYOND);
        met(withBook(0), x -> x.pageAt(HALF, 8), BEYOND);
        met(withBook(1), x -> x.pageAt(HALF, 8), BEYOND);
        met(withBook(1), x -> x.pageAt(HALF, LOWEST), BEYOND);
        met(withBook(1), x -> x.pageAt(HALF, HIGHEST), BEYOND);
    }

    static void promise37_BEYOND_comes_ahead_of_BLANK() {
        met(after(x -> x.gather(0, 0), x -> x.tear(0, BACK, 0), x -> x.add(0)), x -> x.pageAt(HALF, 4), BEYOND);
    }

    static void promise37_a_face_in_a_TORN_row_is_BLANK() {
        met(after(x -> x.gather(0, 0), x -> x.tear(0, BACK, 0), x -> x.add(0)), x -> x.pageAt(HALF, 0), BLANK);
        met(after(x -> x.gather(0, 0), x -> x.tear(0, BACK, 0), x -> x.add(0)), x -> x.pageAt(HALF, 3), BLANK);
    }

    static void promise37_faces_go_on_from_the_last_of_a_signature_to_the_first_of_the_next() {
        FoldPress x = press();
        x.gather(1, 0);
        x.gather(0, 1);
        x.add(1);
        x.add(0);
        x.put(0, BACK, 0, 0, 23, 0);
        x.put(1, BACK, 0, 1, 24, 0);
        x.put(1, BACK, 0, 0, 22, 0);
        T.due(x.pageAt(HALF, 3), 23);
        T.due(x.pageAt(HALF, 4), 24);
        T.due(x.pageAt(HALF, 7), 22);
        T.due(x.pageAt(HALF, 8), BEYOND);
    }

    static void promise37_a_signature_that_is_not_in_the_book_has_no_face_there() {
        met(after(x -> x.gather(0, 0), x -> x.add(1)), x -> x.pageAt(HALF, 0), BEYOND);
    }

    static void promise37_the_most_faces_of_a_book_are_1024() {
        FoldPress x = new FoldPress();
        x.job(1, 1);
        x.page(0);
        x.fold(HALF, BY_COLUMNS);
        x.fold(HALF, BY_ROWS);
        x.cross(0, 1);
        x.cross(2, 2);
        x.cross(3, 2);
        x.signature(BEHIND);
        x.signature(INSIDE);
        for (int sheet = 0; sheet < 8; sheet++) {
            x.sheet(0, 8, 8);
            x.gather(sheet / 4, sheet);
        }
        x.add(0);
        x.add(1);
        // The last face of the book is that of the first sheet that lies INSIDE.
        int side = x.face(4, 8, 8, 127, 0);
        int row = x.face(4, 8, 8, 127, 1);
        int column = x.face(4, 8, 8, 127, 2);
        x.put(3, side, row, column, 17, 0);
        x.put(4, side, row, column, 18, 0);
        T.due(x.pageAt(4, 511), 17);
        T.due(x.pageAt(4, 1023), 18);
        T.due(x.pageAt(4, 1024), BEYOND);
    }

    static void promise37_it_answers_while_the_press_is_JAMMED() {
        T.due(jammedPress().pageAt(HALF, 0), BEYOND);
    }

    // ---- 38: wrap

    static void promise38_a_fold_that_is_not_there_is_NONE_ahead_of_BLANK() {
        refused(x -> x.wrap(7, 0), NONE);
        refused(x -> x.wrap(-1, 0), NONE);
        refused(after(x -> x.cover(0)), x -> x.wrap(7, -1), NONE);
    }

    static void promise38_a_cover_that_lacks_is_BLANK_ahead_of_all_and_no_fold_begins() {
        met(x -> x.wrap(HALF, 0), BLANK);
        met(x -> x.wrap(THIRD, -1), BLANK);
        FoldPress x = press();
        x.wrap(HALF, 0);
        T.due(x.told(6), 0);
    }

    static void promise38_UNFIT_and_OPEN_come_ahead_of_BEYOND_and_BLANK() {
        met(after(x -> x.cover(0)), x -> x.wrap(THIRD, 99), UNFIT);
        met(after(x -> x.cover(0)), x -> x.wrap(FLAT, -1), OPEN);
        met(after(x -> x.cover(3)), x -> x.wrap(FLAT, 0), OPEN);
        met(after(x -> x.cover(0), x -> x.tear(0, BACK, 0)), x -> x.wrap(THIRD, 0), UNFIT);
    }

    static void promise38_a_face_below_0_or_behind_the_last_is_BEYOND_ahead_of_BLANK() {
        met(after(x -> x.cover(0)), x -> x.wrap(HALF, -1), BEYOND);
        met(after(x -> x.cover(0)), x -> x.wrap(HALF, 4), BEYOND);
        met(after(x -> x.cover(0)), x -> x.wrap(HALF, LOWEST), BEYOND);
        met(after(x -> x.cover(0)), x -> x.wrap(HALF, HIGHEST), BEYOND);
        met(after(x -> x.cover(0), x -> x.tear(0, BACK, 0)), x -> x.wrap(HALF, 4), BEYOND);
    }

    static void promise38_a_face_in_a_TORN_row_is_BLANK_and_no_other() {
        met(after(x -> x.cover(0), x -> x.tear(0, BACK, 0)), x -> x.wrap(HALF, 0), BLANK);
        T.due(after(x -> x.cover(0), x -> x.tear(0, BACK, 0)).get().wrap(HALF, 1), 0);
    }

    static void promise38_the_first_and_the_last_face_are_there() {
        FoldPress x = press();
        x.cover(1);
        x.put(1, BACK, 0, 1, 24, 0);
        x.put(1, BACK, 0, 0, 23, 0);
        T.due(x.wrap(HALF, 0), 24);
        T.due(x.wrap(HALF, 3), 23);
    }

    // ---- part 4 of the Terms

    static void term4_BEHIND_the_sheets_follow_one_another_whole() {
        FoldPress x = withBook(0).get();
        for (int k = 0; k < 8; k++) {
            T.due(x.leaf(0, HALF, k, 0), k / 4);
            T.due(x.leaf(0, HALF, k, 1), k % 4);
        }
    }

    static void term4_INSIDE_the_second_halves_come_from_the_last_sheet_back() {
        FoldPress x = withFullSignature();
        int[] sheets = {4, 5, 6, 7, 7, 6, 5, 4};
        for (int k = 0; k < 16; k++) {
            T.due(x.leaf(1, HALF, k, 0), sheets[k / 2]);
            T.due(x.leaf(1, HALF, k, 1), k < 8 ? k % 2 : 2 + k % 2);
        }
        T.due(x.leaf(1, HALF, 16, 0), BEYOND);
    }

    static void term4_one_sheet_alone_is_the_same_INSIDE_and_BEHIND() {
        FoldPress x = press();
        x.gather(0, 0);
        x.gather(1, 1);
        for (int k = 0; k < 4; k++) {
            T.due(x.leaf(0, HALF, k, 0), 0);
            T.due(x.leaf(0, HALF, k, 1), k);
            T.due(x.leaf(1, HALF, k, 0), 1);
            T.due(x.leaf(1, HALF, k, 1), k);
        }
    }

    static void term4_the_fewest_faces_INSIDE_are_those_of_one_leaf() {
        FoldPress x = press();
        T.due(x.sheet(0, 1, 1), 4);
        x.gather(1, 4);
        T.due(x.leaf(1, FLAT, 0, 1), 0);
        T.due(x.leaf(1, FLAT, 1, 1), 1);
        T.due(x.leaf(1, FLAT, 2, 1), BEYOND);
    }

    static void term4_sheets_of_a_signature_are_folded_in_order_and_each_is_traced() {
        FoldPress x = withFullSignature();
        T.due(x.leaf(1, CROSS, 0, 0), UNFIT);
        T.due(x.told(6), 3);
        T.due(x.leaf(1, HALF, 0, 0), 4);
        T.due(x.told(6), 7);
    }
}
