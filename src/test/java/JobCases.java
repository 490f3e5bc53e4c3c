import java.util.function.Supplier;

/** The boundary cases of promises 1 to 14 and 52: a new object, jobs and pages. */
final class JobCases extends Bench {
    /** press(), with so many pages in job 0. */
    private static Supplier<FoldPress> withPages(int count) {
        return () -> {
            FoldPress x = press();
            for (int page = 4; page <= count; page++) {
                T.due(x.page(0), page);
            }
            x.margin(8);
            return x;
        };
    }

    // ---- 1: a new object

    static void promise01_a_new_object_has_no_thing_of_any_kind() {
        FoldPress x = new FoldPress();
        for (int what = 7; what <= 11; what++) {
            T.due(x.told(what), 0);
        }
        T.due(x.about(0, 0), NONE);
        T.due(x.size(0, 1, -1), NONE);
        T.due(x.worth(0, 0), NONE);
        T.due(x.state(0, 0), NONE);
        T.due(x.good(0), NONE);
    }

    static void promise01_a_new_object_has_counted_nothing() {
        FoldPress x = new FoldPress();
        for (int what = 0; what <= 6; what++) {
            T.due(x.told(what), 0);
        }
        T.due(x.moved(), 0);
        T.due(x.trace(0), NONE);
    }

    static void promise01_a_new_object_has_no_sheet_at_a_station() {
        FoldPress x = new FoldPress();
        T.due(x.step(), 0);
        T.due(x.told(2), 0);
        x.job(1, 1);
        x.sheet(0, 1, 1);
        T.due(x.feed(0), 0);
    }

    static void promise01_a_new_object_has_no_change_to_take_back() {
        T.due(new FoldPress().undo(), 0);
    }

    static void promise01_a_new_object_is_not_jammed_and_no_jam_or_double_is_told() {
        FoldPress x = new FoldPress();
        T.due(x.clear(), 0);
        x.job(1, 1);
        x.sheet(0, 1, 1);
        x.fold(0, 0);
        x.foldBy(0, 0);
        x.feed(0);
        for (int station = FEED; station <= TRIM; station++) {
            T.due(x.step(), 1);
        }
        T.due(x.state(0, 0), GOOD);
    }

    static void promise01_a_new_object_has_no_cover_and_an_empty_book() {
        FoldPress x = new FoldPress();
        x.fold(0, 0);
        T.due(x.wrap(0, 0), BLANK);
        T.due(x.pageAt(0, 0), BEYOND);
    }

    static void promise01_a_new_object_has_nothing_of_another_object() {
        FoldPress x = press();
        FoldPress y = new FoldPress();
        T.due(y.told(7), 0);
        T.due(y.job(8, 8), 0);
        T.due(x.about(0, 1), 4);
    }

    // ---- 2: job

    static void promise02_no_lines_are_OUTSIDE() {
        refused(x -> x.job(0, 1), OUTSIDE);
        refused(x -> x.job(LOWEST, 1), OUTSIDE);
    }

    static void promise02_nine_lines_are_OUTSIDE() {
        refused(x -> x.job(9, 1), OUTSIDE);
        refused(x -> x.job(HIGHEST, 1), OUTSIDE);
    }

    static void promise02_no_width_is_OUTSIDE() {
        refused(x -> x.job(1, 0), OUTSIDE);
        refused(x -> x.job(1, LOWEST), OUTSIDE);
    }

    static void promise02_a_width_of_eleven_is_OUTSIDE() {
        refused(x -> x.job(1, 11), OUTSIDE);
        refused(x -> x.job(1, HIGHEST), OUTSIDE);
    }

    static void promise02_the_smallest_format_is_one_line_of_one() {
        FoldPress x = press();
        T.due(x.job(1, 1), 2);
        T.due(x.about(2, 1), 1);
        T.due(x.about(2, 2), 1);
    }

    static void promise02_the_largest_format_is_eight_lines_of_ten() {
        FoldPress x = press();
        T.due(x.job(8, 10), 2);
        T.due(x.about(2, 1), 8);
        T.due(x.about(2, 2), 10);
    }

    static void promise02_numbers_go_from_0_to_2() {
        FoldPress x = new FoldPress();
        for (int job = 0; job <= 2; job++) {
            T.due(x.job(1, 1), job);
        }
        T.due(x.told(7), 3);
    }

    static void promise02_a_fourth_job_is_FULL() {
        refused(after(x -> x.job(1, 1)), x -> x.job(1, 1), FULL);
    }

    static void promise02_OUTSIDE_comes_ahead_of_FULL() {
        refused(after(x -> x.job(1, 1)), x -> x.job(0, 1), OUTSIDE);
        refused(after(x -> x.job(1, 1)), x -> x.job(1, 11), OUTSIDE);
    }

    static void promise02_undo_of_the_third_job_makes_room_for_another() {
        FoldPress x = press();
        T.due(x.job(1, 1), 2);
        T.due(x.undo(), 1);
        T.due(x.job(3, 6), 2);
        T.due(x.about(2, 1), 3);
        T.due(x.job(1, 1), FULL);
    }

    static void promise02_JAMMED_comes_ahead_of_OUTSIDE_and_FULL() {
        jammedAheadOfAll(x -> x.job(1, 1), x -> x.job(0, 1));
    }

    static void promise02_undo_takes_it_back_and_nothing_before_it() {
        takenBack(x -> x.job(1, 1));
    }

    // ---- 3: page

    static void promise03_a_job_that_is_not_there_is_NONE() {
        refused(x -> x.page(2), NONE);
        refused(x -> x.page(-1), NONE);
        refused(x -> x.page(3), NONE);
        refused(x -> x.page(LOWEST), NONE);
        refused(x -> x.page(HIGHEST), NONE);
    }

    static void promise03_the_first_page_is_1() {
        answers(x -> x.page(1), 1);
    }

    static void promise03_a_job_holds_24_pages() {
        FoldPress x = press();
        for (int page = 4; page <= 24; page++) {
            T.due(x.page(0), page);
            T.due(x.size(0, page, -1), BLANK);
        }
        T.due(x.about(0, 0), 24);
    }

    static void promise03_a_25th_page_is_FULL() {
        refused(withPages(24), x -> x.page(0), FULL);
    }

    static void promise03_each_job_has_24_pages_of_its_own() {
        FoldPress x = withPages(24).get();
        T.due(x.page(0), FULL);
        T.due(x.page(1), 1);
        T.due(x.about(0, 0), 24);
        T.due(x.about(1, 0), 1);
    }

    static void promise03_a_page_made_where_one_was_taken_back_is_BLANK() {
        FoldPress x = press();
        T.due(x.join(0, 0), 6);
        T.due(x.undo(), 1);
        T.due(x.page(0), 4);
        T.due(x.size(0, 4, -1), BLANK);
    }

    static void promise03_JAMMED_comes_ahead_of_NONE_and_FULL() {
        jammedAheadOfAll(x -> x.page(0), x -> x.page(2));
    }

    static void promise03_undo_takes_it_back_and_nothing_before_it() {
        takenBack(x -> x.page(0));
    }

    // ---- 4: blank

    static void promise04_a_job_that_is_not_there_is_NONE() {
        refused(x -> x.blank(2, 1), NONE);
        refused(x -> x.blank(-1, 1), NONE);
    }

    static void promise04_page_0_and_the_one_behind_the_last_are_NONE() {
        refused(x -> x.blank(0, 0), NONE);
        refused(x -> x.blank(0, 4), NONE);
        refused(x -> x.blank(0, -1), NONE);
        refused(x -> x.blank(0, LOWEST), NONE);
        refused(x -> x.blank(0, HIGHEST), NONE);
        refused(x -> x.blank(1, 1), NONE);
    }

    static void promise04_a_page_that_is_BLANK_already_is_no_fault() {
        FoldPress x = press();
        T.due(x.blank(0, 2), 1);
        T.due(x.size(0, 2, -1), BLANK);
        T.due(x.told(0), 1);
    }

    static void promise04_rows_that_were_there_do_not_come_back() {
        FoldPress x = press();
        T.due(x.blank(0, 1), 1);
        T.due(x.at(0, 1, 0, 0), BLANK);
        T.due(x.rows(0, 1, 3), 1);
        T.due(x.size(0, 1, 0), BLANK);
    }

    static void promise04_JAMMED_comes_ahead_of_NONE() {
        jammedAheadOfAll(x -> x.blank(0, 1), x -> x.blank(0, 0));
    }

    static void promise04_undo_takes_it_back_and_nothing_before_it() {
        takenBack(x -> x.blank(0, 1));
    }

    // ---- 5: rows

    static void promise05_a_page_that_is_not_there_is_NONE_ahead_of_LARGE_and_SIZE() {
        refused(x -> x.rows(0, 0, 9), NONE);
        refused(x -> x.rows(0, 4, -1), NONE);
        refused(x -> x.rows(1, 1, 1), NONE);
        refused(x -> x.rows(2, 1, 9), NONE);
        refused(x -> x.rows(-1, 1, -1), NONE);
    }

    static void promise05_nine_rows_are_LARGE() {
        stopped(x -> x.rows(0, 1, 9), LARGE);
        stopped(x -> x.rows(0, 1, HIGHEST), LARGE);
    }

    static void promise05_less_than_no_rows_are_SIZE() {
        stopped(x -> x.rows(0, 1, -1), SIZE);
        stopped(x -> x.rows(0, 1, LOWEST), SIZE);
    }

    static void promise05_no_rows_are_no_fault() {
        FoldPress x = press();
        T.due(x.rows(0, 1, 0), 1);
        T.due(x.size(0, 1, -1), 0);
        T.due(x.size(0, 1, 0), BEYOND);
    }

    static void promise05_eight_rows_are_no_fault_whatever_the_format() {
        FoldPress x = press();
        T.due(x.rows(0, 2, 8), 1);
        T.due(x.size(0, 2, -1), 8);
        T.due(x.size(0, 2, 7), BLANK);
        T.due(x.row(0, 2, 7, 1), 1);
    }

    static void promise05_rows_that_had_letters_are_all_MISSING() {
        FoldPress x = press();
        T.due(x.rows(0, 1, 3), 1);
        for (int i = 0; i < 3; i++) {
            T.due(x.size(0, 1, i), BLANK);
        }
    }

    static void promise05_rows_behind_fewer_rows_are_MISSING_when_they_come_again() {
        FoldPress x = press();
        T.due(x.rows(0, 1, 1), 1);
        T.due(x.rows(0, 1, 2), 1);
        T.due(x.size(0, 1, 1), BLANK);
    }

    static void promise05_JAMMED_comes_ahead_of_NONE() {
        jammedAheadOfAll(x -> x.rows(0, 1, 1), x -> x.rows(0, 0, 1));
        refused(Bench::jammedPress, x -> x.rows(0, 1, 9), JAMMED);
    }

    static void promise05_the_rows_of_the_pages_beside_it_stay() {
        FoldPress x = press();
        x.rows(0, 1, 8);
        x.row(0, 1, 7, 10);
        x.rows(0, 3, 1);
        x.row(0, 3, 0, 1);
        T.due(x.rows(0, 2, 8), 1);
        T.due(x.size(0, 1, 7), 10);
        T.due(x.size(0, 3, 0), 1);
    }

    static void promise05_undo_takes_it_back_and_nothing_before_it() {
        takenBack(x -> x.rows(0, 1, 2));
    }

    // ---- 6: row

    static void promise06_a_page_that_is_not_there_is_NONE_ahead_of_LARGE_and_SIZE() {
        refused(x -> x.row(0, 0, 0, 11), NONE);
        refused(x -> x.row(0, 4, 0, -1), NONE);
        refused(x -> x.row(2, 1, 0, 11), NONE);
        refused(x -> x.row(1, 1, 0, 1), NONE);
    }

    static void promise06_eleven_letters_are_LARGE() {
        stopped(x -> x.row(0, 1, 0, 11), LARGE);
        stopped(x -> x.row(0, 1, 0, HIGHEST), LARGE);
    }

    static void promise06_less_than_no_letters_are_SIZE() {
        stopped(x -> x.row(0, 1, 0, -1), SIZE);
        stopped(x -> x.row(0, 1, 0, LOWEST), SIZE);
    }

    static void promise06_a_BLANK_page_is_BLANK() {
        stopped(x -> x.row(0, 2, 0, 1), BLANK);
    }

    static void promise06_a_row_that_is_not_there_is_BEYOND() {
        stopped(x -> x.row(0, 1, 3, 1), BEYOND);
        stopped(x -> x.row(0, 1, -1, 1), BEYOND);
        stopped(x -> x.row(0, 1, LOWEST, 1), BEYOND);
        stopped(x -> x.row(0, 1, HIGHEST, 1), BEYOND);
    }

    static void promise06_every_row_of_a_page_without_rows_is_BEYOND() {
        stopped(x -> x.row(0, 3, 0, 1), BEYOND);
    }

    static void promise06_LARGE_and_SIZE_come_ahead_of_BLANK() {
        stopped(x -> x.row(0, 2, 0, 11), LARGE);
        stopped(x -> x.row(0, 2, 0, -1), SIZE);
    }

    static void promise06_LARGE_and_SIZE_come_ahead_of_BEYOND() {
        stopped(x -> x.row(0, 1, 3, 11), LARGE);
        stopped(x -> x.row(0, 1, 3, -1), SIZE);
    }

    static void promise06_BLANK_comes_ahead_of_BEYOND() {
        stopped(x -> x.row(0, 2, -1, 1), BLANK);
        stopped(x -> x.row(0, 2, 9, 1), BLANK);
    }

    static void promise06_no_letters_are_no_fault_and_not_a_MISSING_row() {
        FoldPress x = press();
        T.due(x.row(0, 1, 0, 0), 1);
        T.due(x.size(0, 1, 0), 0);
        T.due(x.at(0, 1, 0, 0), BEYOND);
    }

    static void promise06_ten_letters_are_no_fault_whatever_the_format() {
        FoldPress x = press();
        T.due(x.row(0, 1, 2, 10), 1);
        T.due(x.size(0, 1, 2), 10);
        T.due(x.at(0, 1, 2, 9), 32);
    }

    static void promise06_the_first_and_the_last_row_are_there() {
        FoldPress x = press();
        T.due(x.row(0, 1, 0, 2), 1);
        T.due(x.row(0, 1, 2, 4), 1);
        T.due(x.size(0, 1, 0), 2);
        T.due(x.size(0, 1, 1), 3);
        T.due(x.size(0, 1, 2), 4);
    }

    static void promise06_letters_are_32_at_first_even_where_others_were() {
        FoldPress x = press();
        T.due(x.row(0, 1, 0, 5), 1);
        reads(x, 1, 0, "     ");
    }

    static void promise06_JAMMED_comes_ahead_of_NONE() {
        jammedAheadOfAll(x -> x.row(0, 1, 0, 1), x -> x.row(0, 0, 0, 1));
        refused(Bench::jammedPress, x -> x.row(0, 2, 9, 11), JAMMED);
    }

    static void promise06_the_letters_of_the_rows_beside_it_stay() {
        FoldPress x = press();
        write(x, 1, 0, "ABCDEFGHIJ");
        write(x, 1, 2, "K");
        T.due(x.row(0, 1, 1, 10), 1);
        reads(x, 1, 0, "ABCDEFGHIJ");
        reads(x, 1, 2, "K");
    }

    static void promise06_undo_takes_it_back_and_nothing_before_it() {
        takenBack(x -> x.row(0, 1, 0, 2));
    }

    // ---- 7: miss

    static void promise07_a_page_that_is_not_there_is_NONE() {
        refused(x -> x.miss(0, 0, 0), NONE);
        refused(x -> x.miss(0, 4, 0), NONE);
        refused(x -> x.miss(1, 1, 0), NONE);
        refused(x -> x.miss(2, 1, 0), NONE);
        refused(x -> x.miss(-1, 1, 0), NONE);
    }

    static void promise07_a_BLANK_page_is_BLANK_ahead_of_BEYOND() {
        stopped(x -> x.miss(0, 2, 0), BLANK);
        stopped(x -> x.miss(0, 2, -1), BLANK);
    }

    static void promise07_a_row_that_is_not_there_is_BEYOND() {
        stopped(x -> x.miss(0, 1, 3), BEYOND);
        stopped(x -> x.miss(0, 1, -1), BEYOND);
        stopped(x -> x.miss(0, 1, LOWEST), BEYOND);
        stopped(x -> x.miss(0, 1, HIGHEST), BEYOND);
        stopped(x -> x.miss(0, 3, 0), BEYOND);
    }

    static void promise07_a_row_that_is_MISSING_already_is_no_fault() {
        FoldPress x = press();
        T.due(x.miss(0, 1, 2), 1);
        T.due(x.size(0, 1, 2), BLANK);
    }

    static void promise07_the_first_row_goes_MISSING_alone() {
        FoldPress x = press();
        T.due(x.miss(0, 1, 0), 1);
        T.due(x.size(0, 1, 0), BLANK);
        T.due(x.size(0, 1, 1), 3);
        T.due(x.size(0, 1, -1), 3);
    }

    static void promise07_JAMMED_comes_ahead_of_NONE() {
        jammedAheadOfAll(x -> x.miss(0, 1, 0), x -> x.miss(0, 0, 0));
        refused(Bench::jammedPress, x -> x.miss(0, 2, 0), JAMMED);
    }

    static void promise07_undo_takes_it_back_and_nothing_before_it() {
        takenBack(x -> x.miss(0, 1, 0));
    }

    // ---- 8: letter

    static void promise08_31_is_OUTSIDE() {
        refused(x -> x.letter(0, 1, 0, 0, 31), OUTSIDE);
        refused(x -> x.letter(0, 1, 0, 0, LOWEST), OUTSIDE);
    }

    static void promise08_127_is_OUTSIDE() {
        refused(x -> x.letter(0, 1, 0, 0, 127), OUTSIDE);
        refused(x -> x.letter(0, 1, 0, 0, HIGHEST), OUTSIDE);
    }

    static void promise08_32_and_126_are_letters() {
        FoldPress x = press();
        T.due(x.letter(0, 1, 0, 0, 32), 1);
        T.due(x.letter(0, 1, 0, 4, 126), 1);
        reads(x, 1, 0, " BCD~");
    }

    static void promise08_a_page_that_is_not_there_is_NONE_ahead_of_OUTSIDE() {
        refused(x -> x.letter(0, 0, 0, 0, 31), NONE);
        refused(x -> x.letter(0, 4, 0, 0, 127), NONE);
        refused(x -> x.letter(1, 1, 0, 0, 65), NONE);
        refused(x -> x.letter(2, 1, 0, 0, 31), NONE);
    }

    static void promise08_OUTSIDE_comes_ahead_of_BLANK_and_BEYOND() {
        refused(x -> x.letter(0, 2, 0, 0, 31), OUTSIDE);
        refused(x -> x.letter(0, 1, 2, 0, 127), OUTSIDE);
        refused(x -> x.letter(0, 1, 3, 0, 31), OUTSIDE);
        refused(x -> x.letter(0, 1, 0, 5, 127), OUTSIDE);
    }

    static void promise08_a_BLANK_page_is_BLANK_ahead_of_BEYOND() {
        stopped(x -> x.letter(0, 2, 0, 0, 65), BLANK);
        stopped(x -> x.letter(0, 2, -1, 9, 65), BLANK);
    }

    static void promise08_a_row_that_is_not_there_is_BEYOND() {
        stopped(x -> x.letter(0, 1, 3, 0, 65), BEYOND);
        stopped(x -> x.letter(0, 1, -1, 0, 65), BEYOND);
        stopped(x -> x.letter(0, 1, LOWEST, 0, 65), BEYOND);
        stopped(x -> x.letter(0, 1, HIGHEST, 0, 65), BEYOND);
        stopped(x -> x.letter(0, 3, 0, 0, 65), BEYOND);
    }

    static void promise08_a_MISSING_row_is_BLANK_ahead_of_the_letter_being_BEYOND() {
        stopped(x -> x.letter(0, 1, 2, 0, 65), BLANK);
        stopped(x -> x.letter(0, 1, 2, -1, 65), BLANK);
        stopped(x -> x.letter(0, 1, 2, 99, 65), BLANK);
    }

    static void promise08_a_letter_that_is_not_there_is_BEYOND() {
        stopped(x -> x.letter(0, 1, 0, 5, 65), BEYOND);
        stopped(x -> x.letter(0, 1, 1, 3, 65), BEYOND);
        stopped(x -> x.letter(0, 1, 0, -1, 65), BEYOND);
        stopped(x -> x.letter(0, 1, 0, LOWEST, 65), BEYOND);
        stopped(x -> x.letter(0, 1, 0, HIGHEST, 65), BEYOND);
    }

    static void promise08_every_letter_of_a_row_of_none_is_BEYOND() {
        stopped(after(x -> x.row(0, 1, 0, 0)), x -> x.letter(0, 1, 0, 0, 65), BEYOND);
    }

    static void promise08_the_first_and_the_last_letter_are_there() {
        FoldPress x = press();
        T.due(x.letter(0, 1, 1, 0, 'x'), 1);
        T.due(x.letter(0, 1, 1, 2, 'z'), 1);
        reads(x, 1, 1, "xGz");
        reads(x, 1, 0, "ABCDE");
    }

    static void promise08_JAMMED_comes_ahead_of_NONE_and_OUTSIDE() {
        jammedAheadOfAll(x -> x.letter(0, 1, 0, 0, 65), x -> x.letter(0, 0, 0, 0, 65));
        refused(Bench::jammedPress, x -> x.letter(0, 1, 0, 0, 31), JAMMED);
        refused(Bench::jammedPress, x -> x.letter(0, 2, 0, 0, 65), JAMMED);
    }

    static void promise08_undo_takes_it_back_and_nothing_before_it() {
        takenBack(x -> x.letter(0, 1, 0, 0, 'z'));
    }

    // ---- 9: at

    static void promise09_a_page_that_is_not_there_is_NONE() {
        refused(x -> x.at(0, 0, 0, 0), NONE);
        refused(x -> x.at(0, 4, 0, 0), NONE);
        refused(x -> x.at(1, 1, 0, 0), NONE);
        refused(x -> x.at(2, 1, 0, 0), NONE);
        refused(x -> x.at(-1, 1, 0, 0), NONE);
    }

    static void promise09_a_BLANK_page_is_BLANK_ahead_of_BEYOND() {
        met(x -> x.at(0, 2, 0, 0), BLANK);
        met(x -> x.at(0, 2, -1, -1), BLANK);
    }

    static void promise09_a_row_that_is_not_there_is_BEYOND() {
        met(x -> x.at(0, 1, 3, 0), BEYOND);
        met(x -> x.at(0, 1, -1, 0), BEYOND);
        met(x -> x.at(0, 1, LOWEST, 0), BEYOND);
        met(x -> x.at(0, 1, HIGHEST, 0), BEYOND);
        met(x -> x.at(0, 3, 0, 0), BEYOND);
    }

    static void promise09_a_MISSING_row_is_BLANK_ahead_of_the_letter_being_BEYOND() {
        met(x -> x.at(0, 1, 2, 0), BLANK);
        met(x -> x.at(0, 1, 2, -1), BLANK);
        met(x -> x.at(0, 1, 2, 99), BLANK);
    }

    static void promise09_a_letter_that_is_not_there_is_BEYOND() {
        met(x -> x.at(0, 1, 0, 5), BEYOND);
        met(x -> x.at(0, 1, 1, 3), BEYOND);
        met(x -> x.at(0, 1, 0, -1), BEYOND);
        met(x -> x.at(0, 1, 0, LOWEST), BEYOND);
        met(x -> x.at(0, 1, 0, HIGHEST), BEYOND);
    }

    static void promise09_every_letter_of_a_row_of_none_is_BEYOND() {
        met(after(x -> x.row(0, 1, 0, 0)), x -> x.at(0, 1, 0, 0), BEYOND);
    }

    static void promise09_the_first_and_the_last_letter_are_there() {
        answers(x -> x.at(0, 1, 0, 0), 'A');
        answers(x -> x.at(0, 1, 0, 4), 'E');
        answers(x -> x.at(0, 1, 1, 2), 'H');
    }

    static void promise09_it_answers_while_the_press_is_JAMMED() {
        T.due(jammedPress().at(0, 1, 0, 4), 'E');
        T.due(jammedPress().at(0, 2, 0, 0), BLANK);
    }

    // ---- 10: size

    static void promise10_a_page_that_is_not_there_is_NONE() {
        refused(x -> x.size(0, 0, -1), NONE);
        refused(x -> x.size(0, 4, -1), NONE);
        refused(x -> x.size(1, 1, 0), NONE);
        refused(x -> x.size(2, 1, -1), NONE);
        refused(x -> x.size(-1, 1, -1), NONE);
    }

    static void promise10_a_BLANK_page_is_BLANK_ahead_of_BEYOND() {
        met(x -> x.size(0, 2, -1), BLANK);
        met(x -> x.size(0, 2, 0), BLANK);
        met(x -> x.size(0, 2, -2), BLANK);
    }

    static void promise10_minus_1_asks_for_the_rows() {
        answers(x -> x.size(0, 1, -1), 3);
    }

    static void promise10_a_page_without_rows_has_0() {
        answers(x -> x.size(0, 3, -1), 0);
    }

    static void promise10_a_row_that_is_not_there_is_BEYOND() {
        met(x -> x.size(0, 1, 3), BEYOND);
        met(x -> x.size(0, 1, -2), BEYOND);
        met(x -> x.size(0, 1, LOWEST), BEYOND);
        met(x -> x.size(0, 1, HIGHEST), BEYOND);
        met(x -> x.size(0, 3, 0), BEYOND);
    }

    static void promise10_a_MISSING_row_is_BLANK() {
        met(x -> x.size(0, 1, 2), BLANK);
    }

    static void promise10_a_row_without_letters_has_0() {
        T.due(after(x -> x.row(0, 1, 2, 0)).get().size(0, 1, 2), 0);
    }

    static void promise10_it_answers_while_the_press_is_JAMMED() {
        T.due(jammedPress().size(0, 1, -1), 3);
        T.due(jammedPress().size(0, 2, -1), BLANK);
    }

    // ---- 11: move

    /** press(), with a page 4 of rows of 4, 3, 0 letters and a MISSING one. */
    private static FoldPress twoFullPages() {
        FoldPress x = press();
        x.page(0);
        x.rows(0, 4, 4);
        write(x, 4, 0, "wxyz");
        write(x, 4, 1, "uvt");
        x.row(0, 4, 2, 0);
        x.margin(8);
        return x;
    }

    static void promise11_a_page_that_is_not_there_is_NONE_ahead_of_OUTSIDE() {
        refused(x -> x.move(2, 1, 0, 1, 1, 1, 1), NONE);
        refused(x -> x.move(-1, 1, 0, 1, 1, 9, 1), NONE);
        refused(x -> x.move(0, 0, 0, 1, 1, 9, 1), NONE);
        refused(x -> x.move(0, 4, 0, 1, 1, -1, 1), NONE);
        refused(x -> x.move(0, 1, 0, 0, 1, 9, 1), NONE);
        refused(x -> x.move(0, 1, 0, 4, 1, -1, 1), NONE);
        refused(x -> x.move(1, 1, 0, 1, 1, 0, 1), NONE);
    }

    static void promise11_less_than_no_rows_are_OUTSIDE() {
        refused(x -> x.move(0, 1, 0, 1, 1, -1, 1), OUTSIDE);
        refused(x -> x.move(0, 1, 0, 1, 1, LOWEST, 1), OUTSIDE);
    }

    static void promise11_nine_rows_are_OUTSIDE() {
        refused(x -> x.move(0, 1, 0, 1, 1, 9, 1), OUTSIDE);
        refused(x -> x.move(0, 1, 0, 1, 1, HIGHEST, 1), OUTSIDE);
    }

    static void promise11_OUTSIDE_comes_ahead_of_COPY() {
        refused(x -> x.move(0, 2, 0, 2, 0, 9, -1), OUTSIDE);
        refused(x -> x.move(0, 1, 3, 1, 3, -1, 99), OUTSIDE);
    }

    static void promise11_of_0_rows_none_is_asked() {
        answers(x -> x.move(0, 2, LOWEST, 3, HIGHEST, 0, -5), 1);
        answers(x -> x.move(0, 1, 9, 1, -9, 0, 99), 1);
    }

    static void promise11_eight_rows_come() {
        FoldPress x = press();
        x.rows(0, 2, 8);
        x.rows(0, 3, 8);
        for (int i = 0; i < 8; i++) {
            x.row(0, 2, i, 1);
            x.row(0, 3, i, 1);
            x.letter(0, 2, i, 0, 'a' + i);
        }
        T.due(x.move(0, 2, 0, 3, 0, 8, 1), 1);
        T.due(x.moved(), 8);
        for (int i = 0; i < 8; i++) {
            T.due(x.at(0, 3, i, 0), 'a' + i);
        }
    }

    static void promise11_a_BLANK_page_that_they_come_from_is_COPY() {
        stopped(x -> x.move(0, 2, 0, 1, 0, 1, 0), COPY);
    }

    static void promise11_a_BLANK_page_that_they_come_to_is_COPY() {
        stopped(x -> x.move(0, 1, 0, 2, 0, 1, 0), COPY);
    }

    static void promise11_a_MISSING_row_that_they_come_from_is_COPY() {
        stopped(x -> x.move(0, 1, 2, 1, 0, 1, 0), COPY);
    }

    static void promise11_a_MISSING_row_that_they_come_to_is_COPY() {
        stopped(x -> x.move(0, 1, 0, 1, 2, 1, 0), COPY);
    }

    static void promise11_no_such_row_that_they_come_from_is_COPY() {
        stopped(x -> x.move(0, 1, 3, 1, 0, 1, 0), COPY);
        stopped(x -> x.move(0, 1, -1, 1, 0, 1, 0), COPY);
        stopped(x -> x.move(0, 1, LOWEST, 1, 0, 8, 0), COPY);
        stopped(x -> x.move(0, 1, HIGHEST, 1, 0, 8, 0), COPY);
        stopped(x -> x.move(0, 3, 0, 1, 0, 1, 0), COPY);
    }

    static void promise11_no_such_row_that_they_come_to_is_COPY() {
        stopped(x -> x.move(0, 1, 0, 1, 3, 1, 0), COPY);
        stopped(x -> x.move(0, 1, 0, 1, -1, 1, 0), COPY);
        stopped(x -> x.move(0, 1, 0, 1, LOWEST, 8, 0), COPY);
        stopped(x -> x.move(0, 1, 0, 1, HIGHEST, 8, 0), COPY);
        stopped(x -> x.move(0, 1, 0, 3, 0, 1, 0), COPY);
    }

    static void promise11_a_row_with_fewer_letters_that_they_come_from_is_COPY() {
        stopped(x -> x.move(0, 1, 1, 1, 0, 1, 4), COPY);
        stopped(x -> x.move(0, 1, 0, 1, 0, 1, HIGHEST), COPY);
    }

    static void promise11_a_row_with_fewer_letters_that_they_come_to_is_COPY() {
        stopped(x -> x.move(0, 1, 0, 1, 1, 1, 4), COPY);
    }

    static void promise11_less_than_no_letters_are_COPY() {
        stopped(x -> x.move(0, 1, 0, 1, 1, 1, -1), COPY);
        stopped(x -> x.move(0, 1, 0, 1, 1, 1, LOWEST), COPY);
    }

    static void promise11_all_letters_of_a_row_come() {
        FoldPress x = press();
        T.due(x.move(0, 1, 1, 1, 0, 1, 3), 1);
        reads(x, 1, 0, "FGHDE");
        reads(x, 1, 1, "FGH");
    }

    static void promise11_no_letters_of_rows_that_are_there_come_as_rows() {
        FoldPress x = twoFullPages();
        T.due(x.move(0, 4, 2, 1, 0, 1, 0), 1);
        T.due(x.moved(), 1);
        reads(x, 1, 0, "ABCDE");
        T.due(x.move(0, 1, 0, 4, 2, 1, 1), COPY);
    }

    static void promise11_it_stops_where_it_fails_and_what_came_before_stays() {
        FoldPress x = twoFullPages();
        T.due(x.move(0, 4, 0, 1, 0, 3, 3), COPY);
        T.due(x.moved(), 2);
        reads(x, 1, 0, "wxyDE");
        reads(x, 1, 1, "uvt");
        T.due(x.told(0), 1);
        T.due(x.told(1), 5);
    }

    static void promise11_a_row_that_fails_gets_no_letter_and_none_behind_it_comes() {
        FoldPress x = twoFullPages();
        x.row(0, 1, 2, 5);
        T.due(x.move(0, 1, 0, 4, 0, 2, 4), COPY);
        T.due(x.moved(), 1);
        reads(x, 4, 0, "ABCD");
        reads(x, 4, 1, "uvt");
    }

    static void promise11_rows_of_one_page_come_one_after_the_other() {
        FoldPress x = press();
        x.row(0, 1, 2, 3);
        T.due(x.move(0, 1, 0, 1, 1, 2, 3), 1);
        reads(x, 1, 1, "ABC");
        reads(x, 1, 2, "ABC");
    }

    static void promise11_a_row_comes_to_itself() {
        FoldPress x = press();
        T.due(x.move(0, 1, 0, 1, 0, 2, 3), 1);
        reads(x, 1, 0, "ABCDE");
        reads(x, 1, 1, "FGH");
    }

    static void promise11_undo_takes_back_the_rows_that_came_ahead_of_COPY() {
        FoldPress x = twoFullPages();
        T.due(x.move(0, 4, 0, 1, 0, 3, 3), COPY);
        T.due(x.undo(), 1);
        reads(x, 1, 0, "ABCDE");
        reads(x, 1, 1, "FGH");
        T.due(x.told(12), 8);
    }

    static void promise11_JAMMED_comes_ahead_of_NONE_and_OUTSIDE() {
        jammedAheadOfAll(x -> x.move(0, 1, 0, 1, 1, 1, 1), x -> x.move(0, 0, 0, 1, 1, 1, 1));
        refused(Bench::jammedPress, x -> x.move(0, 1, 0, 1, 1, 9, 1), JAMMED);
        refused(Bench::jammedPress, x -> x.move(0, 2, 0, 1, 1, 1, 1), JAMMED);
    }

    static void promise11_ten_letters_come_and_the_rows_beside_them_stay() {
        FoldPress x = press();
        x.rows(0, 2, 3);
        write(x, 2, 0, "abcdefghij");
        write(x, 2, 1, "klmnopqrst");
        write(x, 2, 2, "u");
        x.rows(0, 3, 2);
        write(x, 3, 0, "0123456789");
        write(x, 3, 1, "9876543210");
        T.due(x.move(0, 2, 1, 3, 1, 1, 10), 1);
        reads(x, 3, 0, "0123456789");
        reads(x, 3, 1, "klmnopqrst");
        T.due(x.move(0, 3, 0, 2, 0, 2, 1), 1);
        reads(x, 2, 0, "0bcdefghij");
        reads(x, 2, 1, "klmnopqrst");
        reads(x, 2, 2, "u");
    }

    static void promise11_undo_takes_it_back_and_nothing_before_it() {
        takenBack(x -> x.move(0, 1, 0, 1, 1, 1, 3));
    }

    // ---- 12: moved

    static void promise12_it_is_0_before_any() {
        answers(FoldPress::moved, 0);
    }

    static void promise12_it_is_0_after_a_move_of_0_rows() {
        FoldPress x = press();
        x.move(0, 1, 0, 1, 1, 1, 1);
        T.due(x.moved(), 1);
        T.due(x.move(0, 1, 0, 1, 1, 0, 1), 1);
        T.due(x.moved(), 0);
    }

    static void promise12_it_is_0_after_a_move_that_stops_at_its_first_row() {
        FoldPress x = press();
        x.move(0, 1, 0, 1, 1, 1, 1);
        T.due(x.move(0, 1, 0, 1, 2, 1, 1), COPY);
        T.due(x.moved(), 0);
    }

    static void promise12_a_refused_move_leaves_it() {
        FoldPress x = press();
        x.move(0, 1, 0, 1, 0, 2, 1);
        T.due(x.move(0, 9, 0, 1, 1, 1, 1), NONE);
        T.due(x.moved(), 2);
        T.due(x.move(0, 1, 0, 1, 1, 9, 1), OUTSIDE);
        T.due(x.moved(), 2);
    }

    static void promise12_a_move_refused_by_a_jam_leaves_it() {
        FoldPress x = press();
        x.move(0, 1, 0, 1, 0, 2, 1);
        x.jam(FEED);
        x.feed(0);
        x.step();
        T.due(x.move(0, 1, 0, 1, 0, 1, 1), JAMMED);
        T.due(x.moved(), 2);
    }

    static void promise12_a_refused_shift_leaves_it() {
        FoldPress x = press();
        x.move(0, 1, 0, 1, 0, 2, 1);
        T.due(x.shift(0, 0, 0, 9, 0, 0, 1, 1), NONE);
        T.due(x.shift(0, 0, 0, 0, 2, 0, 1, 1), OUTSIDE);
        T.due(x.moved(), 2);
    }

    static void promise12_the_latest_shift_counts_as_a_move_does() {
        FoldPress x = press();
        x.move(0, 1, 0, 1, 0, 1, 1);
        T.due(x.shift(2, 0, 0, 2, 1, 0, 2, 2), 1);
        T.due(x.moved(), 2);
        T.due(x.shift(2, 0, 0, 0, 1, 0, 2, 2), COPY);
        T.due(x.moved(), 1);
        T.due(x.shift(2, 0, 0, 0, 1, 0, 0, 2), 1);
        T.due(x.moved(), 0);
    }

    static void promise12_undo_takes_nothing_back_of_it() {
        FoldPress x = press();
        x.move(0, 1, 0, 1, 0, 2, 1);
        T.due(x.undo(), 1);
        T.due(x.moved(), 2);
    }

    // ---- 13: cut

    static void promise13_a_job_that_is_not_there_is_NONE_ahead_of_LARGE_and_SIZE() {
        refused(x -> x.cut(2, 1, 1), NONE);
        refused(x -> x.cut(-1, 9, 11), NONE);
        refused(x -> x.cut(HIGHEST, -1, -1), NONE);
    }

    static void promise13_nine_lines_are_LARGE() {
        stopped(x -> x.cut(0, 9, 1), LARGE);
        stopped(x -> x.cut(0, HIGHEST, 1), LARGE);
    }

    static void promise13_a_width_of_eleven_is_LARGE() {
        stopped(x -> x.cut(0, 1, 11), LARGE);
        stopped(x -> x.cut(0, 1, HIGHEST), LARGE);
    }

    static void promise13_less_than_no_lines_are_SIZE() {
        stopped(x -> x.cut(0, -1, 1), SIZE);
        stopped(x -> x.cut(0, LOWEST, 1), SIZE);
    }

    static void promise13_a_width_of_less_than_0_is_SIZE() {
        stopped(x -> x.cut(0, 1, -1), SIZE);
        stopped(x -> x.cut(0, 1, LOWEST), SIZE);
    }

    static void promise13_LARGE_comes_ahead_of_SIZE() {
        stopped(x -> x.cut(0, 9, -1), LARGE);
        stopped(x -> x.cut(0, -1, 11), LARGE);
    }

    static void promise13_a_format_of_0_lines_leaves_pages_without_rows() {
        FoldPress x = press();
        T.due(x.cut(0, 0, 5), 1);
        T.due(x.about(0, 1), 0);
        T.due(x.about(0, 2), 5);
        T.due(x.size(0, 1, -1), 0);
    }

    static void promise13_a_format_of_0_width_leaves_rows_without_letters() {
        FoldPress x = press();
        T.due(x.cut(0, 4, 0), 1);
        T.due(x.about(0, 2), 0);
        T.due(x.size(0, 1, -1), 3);
        T.due(x.size(0, 1, 0), 0);
        T.due(x.size(0, 1, 1), 0);
        T.due(x.size(0, 1, 2), BLANK);
    }

    static void promise13_the_largest_format_adds_no_row_and_no_letter() {
        FoldPress x = press();
        T.due(x.cut(0, 8, 10), 1);
        T.due(x.about(0, 1), 8);
        T.due(x.about(0, 2), 10);
        T.due(x.size(0, 1, -1), 3);
        reads(x, 1, 0, "ABCDE");
        reads(x, 1, 1, "FGH");
    }

    static void promise13_rows_as_many_as_the_lines_stay_and_one_more_goes() {
        FoldPress x = press();
        T.due(x.cut(0, 3, 5), 1);
        T.due(x.size(0, 1, -1), 3);
        T.due(x.cut(0, 2, 5), 1);
        T.due(x.size(0, 1, -1), 2);
        T.due(x.size(0, 1, 2), BEYOND);
        reads(x, 1, 1, "FGH");
    }

    static void promise13_letters_as_many_as_the_width_stay_and_one_more_goes() {
        FoldPress x = press();
        T.due(x.cut(0, 4, 3), 1);
        reads(x, 1, 0, "ABC");
        reads(x, 1, 1, "FGH");
        T.due(x.cut(0, 4, 2), 1);
        reads(x, 1, 1, "FG");
    }

    static void promise13_BLANK_pages_and_MISSING_rows_stay_so() {
        FoldPress x = press();
        T.due(x.cut(0, 3, 1), 1);
        T.due(x.size(0, 2, -1), BLANK);
        T.due(x.size(0, 1, 2), BLANK);
        T.due(x.size(0, 3, -1), 0);
    }

    static void promise13_rows_and_letters_beyond_the_format_can_come_again() {
        FoldPress x = press();
        T.due(x.cut(0, 0, 0), 1);
        T.due(x.rows(0, 1, 8), 1);
        T.due(x.row(0, 1, 7, 10), 1);
        T.due(x.at(0, 1, 7, 9), 32);
        T.due(x.size(0, 1, 0), BLANK);
    }

    static void promise13_the_24th_page_is_cut_and_no_other_job() {
        FoldPress x = withPages(24).get();
        x.rows(0, 24, 8);
        x.page(1);
        x.rows(1, 1, 8);
        T.due(x.cut(0, 1, 1), 1);
        T.due(x.size(0, 24, -1), 1);
        T.due(x.size(1, 1, -1), 8);
        T.due(x.about(1, 1), 2);
        T.due(x.about(1, 2), 2);
    }

    static void promise13_JAMMED_comes_ahead_of_NONE() {
        jammedAheadOfAll(x -> x.cut(0, 1, 1), x -> x.cut(2, 1, 1));
        refused(Bench::jammedPress, x -> x.cut(0, 9, -1), JAMMED);
    }

    static void promise13_the_last_page_of_the_job_ahead_stays() {
        FoldPress x = withPages(24).get();
        x.rows(0, 24, 8);
        x.row(0, 24, 7, 10);
        x.page(1);
        x.rows(1, 1, 1);
        T.due(x.cut(1, 0, 0), 1);
        T.due(x.size(0, 24, -1), 8);
        T.due(x.size(0, 24, 7), 10);
        T.due(x.size(1, 1, -1), 0);
    }

    static void promise13_the_first_page_of_the_job_behind_stays() {
        FoldPress x = withPages(24).get();
        x.rows(0, 24, 8);
        x.page(1);
        x.rows(1, 1, 1);
        x.row(1, 1, 0, 10);
        T.due(x.cut(0, 8, 0), 1);
        T.due(x.size(1, 1, -1), 1);
        T.due(x.size(1, 1, 0), 10);
    }

    static void promise13_undo_takes_it_back_and_nothing_before_it() {
        takenBack(x -> x.cut(0, 2, 1));
    }

    // ---- 14: join

    static void promise14_a_job_that_is_not_there_is_NONE() {
        refused(x -> x.join(2, 0), NONE);
        refused(x -> x.join(-1, 0), NONE);
        refused(x -> x.join(0, 2), NONE);
        refused(x -> x.join(0, -1), NONE);
        refused(x -> x.join(LOWEST, HIGHEST), NONE);
    }

    static void promise14_a_job_without_pages_brings_none() {
        FoldPress x = press();
        T.due(x.join(0, 1), 3);
        T.due(x.join(1, 1), 0);
        T.due(x.about(0, 0), 3);
    }

    static void promise14_pages_come_to_a_job_without_any() {
        FoldPress x = press();
        T.due(x.join(1, 0), 3);
        T.due(x.about(1, 0), 3);
        T.due(x.about(0, 0), 3);
        T.due(x.at(1, 1, 0, 4), 'E');
    }

    static void promise14_just_24_pages_are_not_too_many() {
        FoldPress x = withPages(12).get();
        T.due(x.join(0, 0), 24);
        T.due(x.at(0, 13, 0, 4), 'E');
        T.due(x.size(0, 24, -1), BLANK);
    }

    static void promise14_25_pages_are_FULL_and_none_comes() {
        FoldPress x = withPages(22).get();
        T.due(x.join(1, 0), 22);
        T.due(x.page(1), 23);
        T.due(x.join(0, 1), FULL);
        T.due(x.about(0, 0), 22);
        refused(withPages(13), y -> y.join(0, 0), FULL);
        refused(after(y -> y.join(1, 0), y -> y.join(1, 1), y -> y.join(1, 1), y -> y.join(1, 0), y -> y.join(1, 0),
            y -> y.join(1, 0), y -> y.join(1, 0), y -> y.page(0)), y -> y.join(0, 1), FULL);
    }

    static void promise14_NONE_comes_ahead_of_FULL() {
        refused(withPages(24), x -> x.join(0, 2), NONE);
        refused(withPages(24), x -> x.join(2, 0), NONE);
    }

    static void promise14_a_job_joined_to_itself_doubles_once() {
        FoldPress x = press();
        T.due(x.join(0, 0), 6);
        T.due(x.at(0, 4, 0, 0), 'A');
        T.due(x.size(0, 5, -1), BLANK);
        T.due(x.size(0, 6, -1), 0);
    }

    static void promise14_BLANK_pages_and_MISSING_rows_come_as_they_are() {
        FoldPress x = press();
        T.due(x.join(1, 0), 3);
        T.due(x.size(1, 1, -1), 3);
        T.due(x.size(1, 1, 2), BLANK);
        T.due(x.size(1, 2, -1), BLANK);
        T.due(x.size(1, 3, -1), 0);
    }

    static void promise14_rows_beyond_the_format_come_whole_and_the_format_stays() {
        FoldPress x = press();
        T.due(x.join(1, 0), 3);
        T.due(x.size(1, 1, -1), 3);
        T.due(x.size(1, 1, 0), 5);
        T.due(x.about(1, 1), 2);
        T.due(x.about(1, 2), 2);
    }

    static void promise14_each_page_is_for_itself() {
        FoldPress x = press();
        x.join(1, 0);
        x.letter(1, 1, 0, 0, 'q');
        T.due(x.at(0, 1, 0, 0), 'A');
        x.blank(0, 1);
        T.due(x.at(1, 1, 0, 0), 'q');
    }

    static void promise14_JAMMED_comes_ahead_of_NONE() {
        jammedAheadOfAll(x -> x.join(0, 1), x -> x.join(0, 2));
    }

    static void promise14_the_pages_that_a_job_had_stay() {
        FoldPress x = press();
        x.page(1);
        x.rows(1, 1, 8);
        x.row(1, 1, 7, 10);
        x.letter(1, 1, 7, 9, 'z');
        x.rows(0, 3, 8);
        x.row(0, 3, 7, 2);
        T.due(x.join(1, 0), 4);
        T.due(x.size(1, 1, -1), 8);
        T.due(x.size(1, 1, 7), 10);
        T.due(x.at(1, 1, 7, 9), 'z');
        T.due(x.size(1, 4, 7), 2);
        T.due(x.join(1, 0), 7);
        T.due(x.size(1, 4, 7), 2);
        T.due(x.at(1, 5, 0, 4), 'E');
    }

    static void promise14_a_page_of_eight_rows_of_ten_letters_comes_whole() {
        FoldPress x = press();
        x.rows(0, 2, 8);
        for (int i = 0; i < 8; i++) {
            x.row(0, 2, i, 10);
            x.letter(0, 2, i, 0, 'a' + i);
            x.letter(0, 2, i, 9, 'A' + i);
        }
        T.due(x.join(1, 0), 3);
        for (int i = 0; i < 8; i++) {
            T.due(x.size(1, 2, i), 10);
            T.due(x.at(1, 2, i, 0), 'a' + i);
            T.due(x.at(1, 2, i, 8), 32);
            T.due(x.at(1, 2, i, 9), 'A' + i);
        }
    }

    static void promise14_the_job_behind_one_that_has_24_pages_then_stays() {
        FoldPress x = withPages(12).get();
        x.rows(0, 12, 8);
        x.row(0, 12, 7, 10);
        x.page(1);
        x.rows(1, 1, 1);
        x.row(1, 1, 0, 3);
        x.letter(1, 1, 0, 0, 'z');
        T.due(x.join(0, 0), 24);
        T.due(x.size(0, 24, 7), 10);
        T.due(x.size(1, 1, -1), 1);
        T.due(x.size(1, 1, 0), 3);
        T.due(x.at(1, 1, 0, 0), 'z');
    }

    static void promise14_undo_takes_it_back_and_nothing_before_it() {
        takenBack(x -> x.join(1, 0));
    }

    // ---- 52: about

    static void promise52_a_job_that_is_not_there_is_NONE_ahead_of_OUTSIDE() {
        refused(x -> x.about(2, 0), NONE);
        refused(x -> x.about(-1, 3), NONE);
        refused(x -> x.about(LOWEST, -1), NONE);
        refused(x -> x.about(HIGHEST, 0), NONE);
    }

    static void promise52_what_below_0_or_above_2_is_OUTSIDE() {
        refused(x -> x.about(0, -1), OUTSIDE);
        refused(x -> x.about(0, 3), OUTSIDE);
        refused(x -> x.about(0, LOWEST), OUTSIDE);
        refused(x -> x.about(0, HIGHEST), OUTSIDE);
    }

    static void promise52_0_to_2_are_pages_lines_and_width() {
        answers(x -> x.about(0, 0), 3);
        answers(x -> x.about(0, 1), 4);
        answers(x -> x.about(0, 2), 5);
        answers(x -> x.about(1, 0), 0);
    }

    static void promise52_it_answers_while_the_press_is_JAMMED() {
        T.due(jammedPress().about(0, 0), 3);
    }
}
