/** The boundary cases of promises 39 to 51 and of part 5 of the Terms: the run. */
final class RunCases extends Bench {
    private static final int FRONT = 0, BACK = 1;

    /** press(), with HALF told for sheets 0 and 1. */
    private static FoldPress ready() {
        FoldPress x = press();
        x.foldBy(0, HALF);
        x.foldBy(1, HALF);
        return x;
    }

    /** ready(), and sheet 0 has come to a station (0 .. 4), or is GOOD (5). */
    private static FoldPress atStation(int station) {
        FoldPress x = ready();
        x.feed(0);
        steps(x, station);
        T.due(x.state(0, 0), station);
        return x;
    }

    /** ready(), and sheet 0 is SPOILT as a DOUBLE. */
    private static FoldPress spoilt() {
        FoldPress x = ready();
        x.doubled();
        x.feed(0);
        x.step();
        stands(x, 0, SPOILT, 0, DOUBLE);
        return x;
    }

    /** Sheets 0 to 4 of one row of two cells stand at stations 4 to 0. */
    private static FoldPress allStations() {
        FoldPress x = new FoldPress();
        x.job(1, 1);
        x.page(0);
        x.rows(0, 1, 1);
        x.row(0, 1, 0, 1);
        x.fold(HALF, BY_COLUMNS);
        for (int sheet = 0; sheet < 5; sheet++) {
            x.sheet(0, 1, 2);
            x.foldBy(sheet, 0);
        }
        for (int sheet = 0; sheet < 5; sheet++) {
            x.feed(sheet);
            if (sheet < 4) {
                x.step();
            }
        }
        for (int sheet = 0; sheet < 5; sheet++) {
            stands(x, sheet, 4 - sheet, sheet, 0);
        }
        return x;
    }

    /** A step meets a finding where sheet 0 stands: it is SPOILT by it, and the press is not JAMMED. */
    private static void spoils(FoldPress x, int finding) {
        int found = x.told(0);
        int worked = x.told(2);
        T.due(x.step(), 0);
        stands(x, 0, SPOILT, 0, finding);
        T.due(x.told(0), found + 1);
        T.due(x.told(1), -10 - finding);
        T.due(x.told(2), worked + 1);
        T.due(x.told(5), 0);
    }

    // ---- 39: foldBy

    static void promise39_a_sheet_or_fold_that_is_not_there_is_NONE() {
        refused(x -> x.foldBy(4, HALF), NONE);
        refused(x -> x.foldBy(-1, HALF), NONE);
        refused(x -> x.foldBy(0, 7), NONE);
        refused(x -> x.foldBy(0, -1), NONE);
        refused(x -> x.foldBy(LOWEST, HIGHEST), NONE);
    }

    static void promise39_a_refused_fold_leaves_the_one_that_was_told() {
        FoldPress x = atStation(FOLD);
        T.due(x.foldBy(0, 7), NONE);
        T.due(x.step(), 1);
    }

    static void promise39_a_fold_that_does_not_fit_is_told_all_the_same() {
        FoldPress x = press();
        T.due(x.foldBy(0, THIRD), 1);
        T.due(x.foldBy(3, HALF), 1);
        T.due(x.told(0), 0);
        T.due(x.told(6), 0);
    }

    static void promise39_the_latest_fold_counts() {
        FoldPress x = press();
        x.foldBy(0, THIRD);
        x.foldBy(0, HALF);
        x.feed(0);
        steps(x, 3);
        T.due(x.step(), 1);
    }

    static void promise39_a_sheet_at_a_station_or_GOOD_may_be_told_another_fold() {
        T.due(atStation(FOLD).foldBy(0, FLAT), 1);
        T.due(atStation(GOOD).foldBy(0, FLAT), 1);
    }

    static void promise39_JAMMED_comes_ahead_of_NONE() {
        jammedAheadOfAll(x -> x.foldBy(0, HALF), x -> x.foldBy(4, HALF));
    }

    static void promise39_undo_takes_it_back_and_nothing_before_it() {
        takenBack(x -> x.foldBy(0, HALF));
        FoldPress x = press();
        x.feed(0);
        steps(x, 3);
        x.foldBy(0, HALF);
        T.due(x.undo(), 1);
        spoils(x, BLANK);
        FoldPress y = atStation(FOLD);
        y.foldBy(0, THIRD);
        T.due(y.undo(), 1);
        T.due(y.step(), 1);
    }

    // ---- 40: margin

    static void promise40_it_is_3_at_first() {
        FoldPress x = new FoldPress();
        T.due(x.told(12), 3);
        T.due(x.margin(5), 3);
    }

    static void promise40_less_than_0_is_OUTSIDE() {
        refused(x -> x.margin(-1), OUTSIDE);
        refused(x -> x.margin(LOWEST), OUTSIDE);
    }

    static void promise40_more_than_9_is_OUTSIDE() {
        refused(x -> x.margin(10), OUTSIDE);
        refused(x -> x.margin(HIGHEST), OUTSIDE);
    }

    static void promise40_0_and_9_are_margins() {
        FoldPress x = press();
        T.due(x.margin(0), 7);
        T.due(x.told(12), 0);
        T.due(x.margin(9), 0);
        T.due(x.told(12), 9);
    }

    static void promise40_the_margin_that_is_there_already_is_a_change() {
        FoldPress x = press();
        T.due(x.margin(7), 7);
        T.due(x.undo(), 1);
        T.due(x.told(12), 7);
        T.due(x.undo(), 0);
    }

    static void promise40_JAMMED_comes_ahead_of_OUTSIDE() {
        jammedAheadOfAll(x -> x.margin(1), x -> x.margin(10));
    }

    static void promise40_undo_takes_it_back_and_nothing_before_it() {
        takenBack(x -> x.margin(9));
    }

    // ---- 41: feed

    static void promise41_a_sheet_that_is_not_there_is_NONE() {
        refused(x -> x.feed(4), NONE);
        refused(x -> x.feed(-1), NONE);
        refused(x -> x.feed(LOWEST), NONE);
        refused(x -> x.feed(HIGHEST), NONE);
    }

    static void promise41_NONE_comes_ahead_of_BUSY() {
        refused(() -> atStation(FEED), x -> x.feed(4), NONE);
    }

    static void promise41_a_sheet_at_each_station_is_BUSY() {
        for (int station = FEED; station <= TRIM; station++) {
            int there = station;
            refused(() -> atStation(there), x -> x.feed(0), BUSY);
        }
    }

    static void promise41_a_GOOD_sheet_is_BUSY() {
        refused(() -> atStation(GOOD), x -> x.feed(0), BUSY);
    }

    static void promise41_a_SPOILT_sheet_is_BUSY() {
        refused(RunCases::spoilt, x -> x.feed(0), BUSY);
    }

    static void promise41_another_sheet_at_station_0_is_BUSY() {
        refused(() -> atStation(FEED), x -> x.feed(1), BUSY);
    }

    static void promise41_sheets_at_other_stations_are_no_matter() {
        FoldPress x = atStation(PRINT);
        T.due(x.feed(1), 1);
        stands(x, 0, PRINT, 0, 0);
        stands(x, 1, FEED, 1, 0);
    }

    static void promise41_the_first_NUMBER_is_0_and_refused_sheets_get_none() {
        FoldPress x = press();
        T.due(x.feed(4), NONE);
        T.due(x.feed(1), 0);
        T.due(x.feed(0), BUSY);
        T.due(x.told(4), 1);
        x.step();
        T.due(x.feed(0), 1);
    }

    static void promise41_undo_takes_no_NUMBER_back_but_the_sheet_has_none() {
        FoldPress x = press();
        T.due(x.feed(0), 0);
        T.due(x.undo(), 1);
        stands(x, 0, REST, -1, 0);
        T.due(x.told(4), 1);
        T.due(x.feed(0), 1);
        stands(x, 0, FEED, 1, 0);
    }

    static void promise41_undo_of_a_second_feed_brings_back_the_NUMBER_before() {
        FoldPress x = spoilt();
        x.reprint(0);
        T.due(x.feed(0), 1);
        T.due(x.undo(), 1);
        stands(x, 0, REST, 0, 0);
        T.due(x.feed(0), 2);
    }

    static void promise41_a_sheet_without_cells_and_without_fold_is_fed() {
        answers(x -> x.feed(3), 0);
    }

    static void promise41_JAMMED_comes_ahead_of_NONE_and_BUSY() {
        jammedAheadOfAll(x -> x.feed(0), x -> x.feed(4));
        refused(Bench::jammedPress, x -> x.feed(1), JAMMED);
    }

    static void promise41_undo_takes_it_back_and_nothing_before_it() {
        takenBack(x -> x.feed(0));
    }

    // ---- 42: doubled

    static void promise42_the_next_sheet_at_station_0_is_a_DOUBLE_and_the_one_after_it_is_not() {
        FoldPress x = ready();
        T.due(x.doubled(), 1);
        x.feed(0);
        T.due(x.step(), 0);
        stands(x, 0, SPOILT, 0, DOUBLE);
        x.feed(1);
        T.due(x.step(), 1);
        stands(x, 1, PRINT, 1, 0);
    }

    static void promise42_told_twice_it_is_one_DOUBLE() {
        FoldPress x = ready();
        T.due(x.doubled(), 1);
        T.due(x.doubled(), 1);
        x.feed(0);
        x.step();
        x.feed(1);
        T.due(x.step(), 1);
    }

    static void promise42_it_stays_told_while_no_sheet_is_at_station_0() {
        FoldPress x = ready();
        x.doubled();
        T.due(x.step(), 0);
        T.due(x.step(), 0);
        T.due(x.told(0), 0);
        x.feed(0);
        x.step();
        stands(x, 0, SPOILT, 0, DOUBLE);
    }

    static void promise42_a_sheet_at_another_station_is_no_DOUBLE() {
        for (int station = PRINT; station <= TRIM; station++) {
            FoldPress x = atStation(station);
            x.doubled();
            T.due(x.step(), 1);
            stands(x, 0, station + 1, 0, 0);
        }
    }

    static void promise42_a_jam_comes_ahead_of_it_and_it_stays_told() {
        FoldPress x = ready();
        x.doubled();
        x.jam(FEED);
        x.feed(0);
        T.due(x.step(), 0);
        stands(x, 0, SPOILT, 0, JAM);
        x.clear();
        x.feed(1);
        T.due(x.step(), 0);
        stands(x, 1, SPOILT, 1, DOUBLE);
    }

    static void promise42_undo_takes_it_back() {
        FoldPress x = ready();
        x.feed(0);
        x.doubled();
        T.due(x.undo(), 1);
        T.due(x.step(), 1);
    }

    static void promise42_undo_of_the_step_that_met_it_has_it_told_again() {
        FoldPress x = spoilt();
        T.due(x.undo(), 1);
        stands(x, 0, FEED, 0, 0);
        T.due(x.step(), 0);
        stands(x, 0, SPOILT, 0, DOUBLE);
        T.due(x.told(0), 2);
    }

    static void promise42_while_JAMMED_it_is_refused() {
        refused(Bench::jammedPress, FoldPress::doubled, JAMMED);
    }

    static void promise42_undo_takes_it_back_and_nothing_before_it() {
        takenBack(FoldPress::doubled);
    }

    // ---- 43: jam

    static void promise43_a_station_below_0_is_OUTSIDE() {
        refused(x -> x.jam(-1), OUTSIDE);
        refused(x -> x.jam(LOWEST), OUTSIDE);
    }

    static void promise43_a_station_above_4_is_OUTSIDE() {
        refused(x -> x.jam(5), OUTSIDE);
        refused(x -> x.jam(HIGHEST), OUTSIDE);
    }

    static void promise43_each_station_jams_its_next_sheet() {
        for (int station = FEED; station <= TRIM; station++) {
            FoldPress x = atStation(station);
            T.due(x.jam(station), 1);
            T.due(x.told(5), 0);
            T.due(x.step(), 0);
            stands(x, 0, SPOILT, 0, JAM);
            T.due(x.told(5), 1);
        }
    }

    static void promise43_told_twice_one_sheet_alone_jams() {
        FoldPress x = ready();
        x.jam(FEED);
        x.jam(FEED);
        x.feed(0);
        x.step();
        stands(x, 0, SPOILT, 0, JAM);
        x.clear();
        x.feed(1);
        T.due(x.step(), 1);
        stands(x, 1, PRINT, 1, 0);
    }

    static void promise43_it_stays_told_while_no_sheet_is_at_the_station() {
        FoldPress x = ready();
        x.jam(TRIM);
        T.due(x.step(), 0);
        T.due(x.told(5), 0);
        x.feed(0);
        steps(x, 4);
        T.due(x.step(), 0);
        stands(x, 0, SPOILT, 0, JAM);
    }

    static void promise43_jams_of_two_stations_are_two() {
        FoldPress x = ready();
        x.jam(FEED);
        x.jam(PRINT);
        x.feed(0);
        x.step();
        x.clear();
        x.feed(1);
        T.due(x.step(), 1);
        T.due(x.step(), 0);
        stands(x, 1, SPOILT, 1, JAM);
    }

    static void promise43_undo_takes_it_back() {
        FoldPress x = atStation(FEED);
        x.jam(FEED);
        T.due(x.undo(), 1);
        T.due(x.step(), 1);
    }

    static void promise43_JAMMED_comes_ahead_of_OUTSIDE() {
        jammedAheadOfAll(x -> x.jam(0), x -> x.jam(5));
    }

    static void promise43_undo_takes_it_back_and_nothing_before_it() {
        takenBack(x -> x.jam(0));
    }

    // ---- 44: step

    static void promise44_an_empty_press_works_none() {
        FoldPress x = press();
        T.due(x.step(), 0);
        T.due(x.told(2), 0);
        T.due(x.undo(), 1);
        T.due(x.told(12), 7);
    }

    static void promise44_while_JAMMED_it_is_refused() {
        refused(Bench::jammedPress, FoldPress::step, JAMMED);
    }

    static void promise44_sheets_at_all_five_stations_go_on_by_one_each() {
        FoldPress x = allStations();
        int worked = x.told(2);
        T.due(x.step(), 5);
        for (int sheet = 0; sheet < 5; sheet++) {
            stands(x, sheet, 5 - sheet, sheet, 0);
        }
        T.due(x.told(2), worked + 5);
    }

    static void promise44_from_station_4_on_a_sheet_is_GOOD_and_stays_so() {
        FoldPress x = atStation(TRIM);
        T.due(x.step(), 1);
        stands(x, 0, GOOD, 0, 0);
        T.due(x.step(), 0);
        stands(x, 0, GOOD, 0, 0);
        T.due(x.told(2), 5);
    }

    static void promise44_a_jam_at_station_4_ends_the_step_ahead_of_all_others() {
        FoldPress x = allStations();
        int worked = x.told(2);
        x.jam(TRIM);
        T.due(x.step(), 0);
        stands(x, 0, SPOILT, 0, JAM);
        for (int sheet = 1; sheet < 5; sheet++) {
            stands(x, sheet, 4 - sheet, sheet, 0);
        }
        T.due(x.told(2), worked + 1);
        T.due(x.told(0), 1);
    }

    static void promise44_a_jam_at_station_0_comes_when_all_others_went_well() {
        FoldPress x = allStations();
        x.jam(FEED);
        T.due(x.step(), 4);
        for (int sheet = 0; sheet < 4; sheet++) {
            stands(x, sheet, 5 - sheet, sheet, 0);
        }
        stands(x, 4, SPOILT, 4, JAM);
        T.due(x.told(5), 1);
    }

    static void promise44_of_two_jams_the_later_station_is_met_and_the_other_stays_told() {
        FoldPress x = allStations();
        x.jam(FEED);
        x.jam(TURN);
        T.due(x.step(), 2);
        stands(x, 2, SPOILT, 2, JAM);
        stands(x, 4, FEED, 4, 0);
        T.due(x.told(0), 1);
        x.clear();
        T.due(x.step(), 2);
        stands(x, 4, SPOILT, 4, JAM);
        T.due(x.told(0), 2);
    }

    static void promise44_a_jam_comes_ahead_of_the_work_and_its_finding() {
        FoldPress x = ready();
        x.tear(0, FRONT, 0);
        x.feed(0);
        x.step();
        x.jam(PRINT);
        T.due(x.step(), 0);
        stands(x, 0, SPOILT, 0, JAM);
        T.due(x.told(0), 1);
        T.due(x.told(1), 10);
        FoldPress y = atStation(FOLD);
        y.jam(FOLD);
        T.due(y.step(), 0);
        T.due(y.told(6), 0);
    }

    static void promise44_a_jam_at_a_station_without_sheet_does_not_end_the_step() {
        FoldPress x = atStation(FEED);
        x.jam(TRIM);
        T.due(x.step(), 1);
        T.due(x.told(5), 0);
    }

    static void promise44_a_SPOILT_sheet_leaves_its_station_free() {
        FoldPress x = spoilt();
        T.due(x.feed(1), 1);
        T.due(x.step(), 1);
        stands(x, 0, SPOILT, 0, DOUBLE);
        stands(x, 1, PRINT, 1, 0);
    }

    static void promise44_a_finding_does_not_end_the_step_and_several_count() {
        FoldPress x = allStations();
        x.margin(0);
        x.tear(2, BACK, 0);
        x.doubled();
        T.due(x.step(), 2);
        stands(x, 0, SPOILT, 0, SIZE);
        stands(x, 1, TRIM, 1, 0);
        stands(x, 2, SPOILT, 2, BLANK);
        stands(x, 3, TURN, 3, 0);
        stands(x, 4, SPOILT, 4, DOUBLE);
        T.due(x.told(0), 3);
        T.due(x.told(1), 9);
        T.due(x.told(5), 0);
    }

    static void promise44_all_five_may_be_SPOILT_in_one_step() {
        FoldPress x = allStations();
        x.margin(0);
        x.fold(THIRD, BY_COLUMNS);
        x.foldBy(1, 1);
        x.tear(2, BACK, 0);
        x.tear(3, FRONT, 0);
        x.doubled();
        int worked = x.told(2);
        T.due(x.step(), 0);
        for (int sheet = 0; sheet < 5; sheet++) {
            T.due(x.state(sheet, 0), SPOILT);
        }
        T.due(x.told(0), 5);
        T.due(x.told(2), worked + 5);
        T.due(x.undo(), 1);
        for (int sheet = 0; sheet < 5; sheet++) {
            stands(x, sheet, 4 - sheet, sheet, 0);
        }
        T.due(x.told(0), 5);
    }

    static void promise44_undo_of_a_step_brings_all_sheets_back_and_keeps_the_counts() {
        FoldPress x = allStations();
        int worked = x.told(2);
        T.due(x.step(), 5);
        int traced = x.told(6);
        T.due(x.undo(), 1);
        for (int sheet = 0; sheet < 5; sheet++) {
            stands(x, sheet, 4 - sheet, sheet, 0);
        }
        T.due(x.told(2), worked + 5);
        T.due(x.told(6), traced);
    }

    static void promise44_undo_takes_it_back_and_nothing_before_it() {
        takenBack(FoldPress::step);
    }

    // ---- 45: reprint

    static void promise45_a_sheet_that_is_not_there_is_NONE() {
        refused(x -> x.reprint(4), NONE);
        refused(x -> x.reprint(-1), NONE);
        refused(x -> x.reprint(LOWEST), NONE);
        refused(x -> x.reprint(HIGHEST), NONE);
    }

    static void promise45_a_sheet_at_REST_is_BUSY() {
        refused(x -> x.reprint(0), BUSY);
    }

    static void promise45_a_sheet_at_each_station_is_BUSY() {
        for (int station = FEED; station <= TRIM; station++) {
            int there = station;
            refused(() -> atStation(there), x -> x.reprint(0), BUSY);
        }
    }

    static void promise45_a_GOOD_sheet_is_BUSY() {
        refused(() -> atStation(GOOD), x -> x.reprint(0), BUSY);
    }

    static void promise45_a_SPOILT_sheet_rests_keeps_its_NUMBER_and_has_no_finding() {
        FoldPress x = spoilt();
        T.due(x.reprint(0), 1);
        stands(x, 0, REST, 0, 0);
        T.due(x.reprint(0), BUSY);
        T.due(x.feed(0), 1);
        stands(x, 0, FEED, 1, 0);
    }

    static void promise45_undo_has_it_SPOILT_again_by_the_same_finding() {
        FoldPress x = spoilt();
        x.reprint(0);
        T.due(x.undo(), 1);
        stands(x, 0, SPOILT, 0, DOUBLE);
    }

    static void promise45_JAMMED_comes_ahead_of_NONE_and_BUSY() {
        refused(Bench::jammedPress, x -> x.reprint(1), JAMMED);
        refused(Bench::jammedPress, x -> x.reprint(4), JAMMED);
        refused(Bench::jammedPress, x -> x.reprint(0), JAMMED);
    }

    static void promise45_undo_takes_it_back_and_nothing_before_it() {
        takenBack(RunCases::spoilt, x -> x.reprint(0));
    }

    // ---- 46: clear

    static void promise46_it_is_0_if_the_press_was_not_JAMMED() {
        FoldPress x = press();
        T.due(x.clear(), 0);
        T.due(x.told(5), 0);
    }

    static void promise46_it_is_1_once_and_the_press_is_JAMMED_no_more() {
        FoldPress x = jammedPress();
        T.due(x.told(5), 1);
        T.due(x.clear(), 1);
        T.due(x.told(5), 0);
        T.due(x.clear(), 0);
        T.due(x.step(), 0);
    }

    static void promise46_it_leaves_the_sheet_SPOILT_and_other_jams_told() {
        FoldPress x = press();
        x.jam(FEED);
        x.jam(PRINT);
        x.feed(0);
        x.step();
        T.due(x.clear(), 1);
        stands(x, 0, SPOILT, 0, JAM);
        x.feed(1);
        x.step();
        T.due(x.step(), 0);
        T.due(x.told(5), 1);
    }

    static void promise46_it_is_a_change_that_undo_takes_back() {
        FoldPress x = jammedPress();
        T.due(x.clear(), 1);
        T.due(x.undo(), 1);
        T.due(x.told(5), 1);
        T.due(x.undo(), JAMMED);
        T.due(x.clear(), 1);
    }

    static void promise46_an_idle_one_is_the_latest_change_too() {
        FoldPress x = press();
        T.due(x.clear(), 0);
        T.due(x.undo(), 1);
        T.due(x.told(12), 7);
        T.due(x.undo(), 0);
    }

    static void promise46_undo_takes_it_back_and_nothing_before_it() {
        takenBack(FoldPress::clear);
    }

    // ---- 47: state

    static void promise47_a_sheet_that_is_not_there_is_NONE_ahead_of_OUTSIDE() {
        refused(x -> x.state(4, 0), NONE);
        refused(x -> x.state(-1, 3), NONE);
        refused(x -> x.state(HIGHEST, -1), NONE);
    }

    static void promise47_what_below_0_or_above_2_is_OUTSIDE() {
        refused(x -> x.state(0, -1), OUTSIDE);
        refused(x -> x.state(0, 3), OUTSIDE);
        refused(x -> x.state(0, LOWEST), OUTSIDE);
        refused(x -> x.state(0, HIGHEST), OUTSIDE);
    }

    static void promise47_a_sheet_that_was_never_fed_rests_without_NUMBER() {
        stands(press(), 0, REST, -1, 0);
    }

    static void promise47_a_sheet_at_each_station_tells_it_and_a_GOOD_one_5() {
        for (int station = FEED; station <= GOOD; station++) {
            stands(atStation(station), 0, station, 0, 0);
        }
    }

    static void promise47_a_SPOILT_sheet_is_6_with_its_finding() {
        stands(spoilt(), 0, SPOILT, 0, DOUBLE);
        stands(jammedPress(), 1, SPOILT, 0, JAM);
    }

    static void promise47_the_latest_NUMBER_is_told() {
        FoldPress x = spoilt();
        x.reprint(0);
        T.due(x.state(0, 1), 0);
        x.feed(0);
        T.due(x.state(0, 1), 1);
    }

    // ---- 48: good

    /** So many sheets of signature 0 have come through, of 4. */
    private static FoldPress through(int count) {
        FoldPress x = new FoldPress();
        x.job(1, 1);
        x.fold(FLAT, BY_ROWS);
        x.signature(BEHIND);
        for (int sheet = 0; sheet < 4; sheet++) {
            x.sheet(0, 1, 1);
            x.foldBy(sheet, 0);
            x.gather(0, sheet);
        }
        for (int sheet = 0; sheet < count; sheet++) {
            x.feed(sheet);
            steps(x, 5);
            T.due(x.state(sheet, 0), GOOD);
        }
        return x;
    }

    static void promise48_a_signature_that_is_not_there_is_NONE() {
        refused(x -> x.good(2), NONE);
        refused(x -> x.good(-1), NONE);
        refused(x -> x.good(LOWEST), NONE);
        refused(x -> x.good(HIGHEST), NONE);
    }

    static void promise48_a_signature_without_sheets_has_0() {
        answers(x -> x.good(0), 0);
        answers(x -> x.good(1), 0);
    }

    static void promise48_none_one_and_all_four() {
        for (int count = 0; count <= 4; count++) {
            T.due(through(count).good(0), count);
        }
    }

    static void promise48_GOOD_sheets_behind_one_that_is_not_do_not_count() {
        FoldPress x = through(0);
        x.feed(1);
        steps(x, 5);
        T.due(x.good(0), 0);
        x.feed(0);
        steps(x, 5);
        T.due(x.good(0), 2);
        x.feed(3);
        steps(x, 5);
        T.due(x.good(0), 2);
    }

    static void promise48_a_sheet_at_the_last_station_or_SPOILT_is_not_GOOD() {
        FoldPress x = through(1);
        x.feed(1);
        steps(x, 4);
        T.due(x.good(0), 1);
        x.jam(TRIM);
        x.step();
        T.due(x.state(1, 0), SPOILT);
        T.due(x.good(0), 1);
    }

    // ---- 49: undo

    static void promise49_there_is_none_at_first() {
        FoldPress x = new FoldPress();
        T.due(x.undo(), 0);
        T.due(x.job(0, 0), OUTSIDE);
        T.due(x.undo(), 0);
    }

    static void promise49_a_second_undo_finds_none() {
        FoldPress x = press();
        T.due(x.undo(), 1);
        T.due(x.told(12), 3);
        T.due(x.undo(), 0);
        T.due(x.told(12), 3);
        T.due(x.told(10), 2);
    }

    static void promise49_a_change_after_an_undo_can_be_taken_back() {
        FoldPress x = press();
        x.undo();
        x.margin(5);
        T.due(x.undo(), 1);
        T.due(x.told(12), 3);
    }

    static void promise49_while_JAMMED_it_is_refused() {
        FoldPress x = jammedPress();
        T.due(x.undo(), JAMMED);
        T.due(x.told(5), 1);
        stands(x, 1, SPOILT, 0, JAM);
    }

    static void promise49_a_refused_call_is_no_latest_change() {
        FoldPress x = press();
        x.page(2);
        x.job(0, 0);
        x.reprint(0);
        T.due(x.undo(), 1);
        T.due(x.told(12), 3);
    }

    static void promise49_counts_stay_as_they_are() {
        FoldPress x = atStation(PRINT);
        x.put(0, FRONT, 0, 0, 1, 0);
        x.put(0, FRONT, 0, 1, 2, 0);
        T.due(x.step(), 0);
        int[] counts = {1, 1, 2, 'A', 1};
        T.due(x.undo(), 1);
        for (int what = 0; what <= 4; what++) {
            T.due(x.told(what), counts[what]);
        }
        T.due(x.state(0, 0), PRINT);
    }

    static void promise49_the_trace_stays_as_it_is() {
        FoldPress x = atStation(FOLD);
        T.due(x.step(), 1);
        T.due(x.undo(), 1);
        T.due(x.told(6), 1);
        T.due(x.trace(0), 2);
        T.due(x.lay(0, HALF, 1), 4);
        T.due(x.undo(), 1);
        T.due(x.told(6), 2);
    }

    static void promise49_of_a_step_that_jammed_the_clear_is_taken_back_first_and_alone() {
        FoldPress x = jammedPress();
        T.due(x.clear(), 1);
        T.due(x.undo(), 1);
        stands(x, 1, SPOILT, 0, JAM);
        T.due(x.told(5), 1);
    }

    // ---- 50: told

    static void promise50_below_0_or_above_12_is_OUTSIDE() {
        refused(x -> x.told(-1), OUTSIDE);
        refused(x -> x.told(13), OUTSIDE);
        refused(x -> x.told(LOWEST), OUTSIDE);
        refused(x -> x.told(HIGHEST), OUTSIDE);
    }

    static void promise50_0_to_12_each_have_their_own_count() {
        FoldPress x = new FoldPress();
        x.job(2, 2);
        x.page(0);
        x.rows(0, 1, 1);
        x.row(0, 1, 0, 1);
        for (int n = 0; n < 10; n++) {
            x.fold(HALF, BY_COLUMNS);
        }
        for (int n = 0; n < 7; n++) {
            x.sheet(0, 1, 2);
        }
        for (int n = 0; n < 4; n++) {
            x.signature(0);
        }
        x.add(0);
        x.add(3);
        x.margin(9);
        x.put(0, FRONT, 0, 0, 1, 0);
        x.feed(0);
        x.step();
        x.feed(1);
        x.step();
        x.faces(0, 1, 2);
        x.faces(0, 1, 2);
        x.faces(0, 1, 2);
        x.faces(0, 1, 2);
        x.faces(0, 1, 1);
        x.at(0, 1, 0, 9);
        x.at(0, 1, 0, 9);
        x.lips(0);
        x.jam(TURN);
        x.step();
        int[] counts = {5, 10, 4, 32, 2, 1, 5, 1, 10, 7, 4, 2, 9};
        for (int what = 0; what <= 12; what++) {
            T.due(x.told(what), counts[what]);
        }
    }

    static void promise50_the_latest_finding_is_0_before_any_and_is_not_cleared_by_a_call_without() {
        FoldPress x = press();
        T.due(x.told(1), 0);
        x.lips(HALF);
        T.due(x.told(1), 6);
        x.lips(GATE);
        x.margin(1);
        T.due(x.told(1), 6);
    }

    static void promise50_it_answers_while_the_press_is_JAMMED() {
        FoldPress x = jammedPress();
        T.due(x.told(5), 1);
        T.due(x.told(12), 7);
    }

    // ---- 51: trace

    /** press(), with so many numbers in the trace, which are 1 but for a 3 as the first and a 2 as the second. */
    private static FoldPress traced(int count) {
        FoldPress x = press();
        for (int n = 0; n < count; n++) {
            x.faces(n == 0 ? THIRD : n == 1 ? HALF : FLAT, 1, n == 0 ? 3 : n == 1 ? 2 : 1);
        }
        T.due(x.told(6), count);
        return x;
    }

    static void promise51_an_empty_trace_is_NONE() {
        refused(x -> x.trace(0), NONE);
    }

    static void promise51_below_0_is_NONE() {
        refused(() -> traced(3), x -> x.trace(-1), NONE);
        refused(() -> traced(3), x -> x.trace(LOWEST), NONE);
    }

    static void promise51_behind_the_first_number_is_NONE() {
        FoldPress x = traced(3);
        T.due(x.trace(0), 1);
        T.due(x.trace(1), 2);
        T.due(x.trace(2), 3);
        T.due(x.trace(3), NONE);
        T.due(x.trace(HIGHEST), NONE);
    }

    static void promise51_the_39th_keeps_all() {
        FoldPress x = traced(39);
        T.due(x.trace(38), 3);
        T.due(x.trace(39), NONE);
    }

    static void promise51_the_40th_keeps_the_first_still() {
        FoldPress x = traced(40);
        T.due(x.trace(39), 3);
        T.due(x.trace(38), 2);
        T.due(x.trace(0), 1);
        T.due(x.trace(40), NONE);
    }

    static void promise51_the_41st_pushes_the_first_out() {
        FoldPress x = traced(41);
        T.due(x.trace(39), 2);
        T.due(x.trace(40), NONE);
        T.due(x.told(6), 41);
    }

    static void promise51_the_trace_goes_on_around_its_end() {
        FoldPress x = traced(81);
        for (int i = 0; i < 40; i++) {
            T.due(x.trace(i), 1);
        }
        x.faces(GATE, 1, 3);
        T.due(x.trace(0), 4);
        T.due(x.trace(1), 1);
        T.due(x.trace(39), 1);
        T.due(x.trace(40), NONE);
    }

    static void promise51_NONE_is_no_finding_and_it_answers_while_JAMMED() {
        FoldPress x = jammedPress();
        T.due(x.trace(0), NONE);
        T.due(x.told(0), 1);
    }

    // ---- part 5 of the Terms

    static void term5_PRINT_without_any_page_inks_nothing() {
        FoldPress x = atStation(PRINT);
        T.due(x.step(), 1);
        T.due(x.told(3), 0);
    }

    static void term5_PRINT_inks_line_0_place_0_of_each_page_on_the_front_alone() {
        FoldPress x = ready();
        x.put(0, FRONT, 0, 0, 1, 0);
        x.put(0, FRONT, 0, 1, 1, 0);
        x.put(0, BACK, 0, 0, 1, 0);
        x.feed(0);
        steps(x, 1);
        T.due(x.told(3), 0);
        T.due(x.step(), 1);
        T.due(x.told(3), 'A' + 'A');
        T.due(x.step(), 1);
        T.due(x.told(3), 'A' + 'A' + 'A');
    }

    static void term5_PRINT_the_other_way_up_inks_the_last_line_and_place_of_the_format() {
        FoldPress x = ready();
        x.cut(0, 1, 5);
        x.put(0, FRONT, 0, 0, 1, 1);
        x.feed(0);
        steps(x, 2);
        T.due(x.told(3), 'E');
    }

    static void term5_PRINT_of_a_TORN_row_is_BLANK_and_of_a_TORN_back_is_not() {
        FoldPress x = atStation(PRINT);
        x.tear(0, FRONT, 0);
        spoils(x, BLANK);
        FoldPress y = atStation(PRINT);
        y.tear(0, BACK, 0);
        T.due(y.step(), 1);
        spoils(y, BLANK);
    }

    static void term5_TURN_of_a_TORN_front_goes_well() {
        FoldPress x = atStation(TURN);
        x.tear(0, FRONT, 0);
        T.due(x.step(), 1);
    }

    static void term5_PRINT_and_TURN_of_eight_rows_ask_no_row_of_the_other_side() {
        FoldPress x = press();
        T.due(x.sheet(0, 8, 8), 4);
        x.feed(4);
        x.step();
        x.tear(4, BACK, 0);
        T.due(x.step(), 1);
        stands(x, 4, TURN, 0, 0);
        FoldPress y = press();
        T.due(y.sheet(0, 8, 8), 4);
        y.feed(4);
        steps(y, 2);
        y.tear(4, FRONT, 7);
        T.due(y.step(), 1);
        stands(y, 4, FOLD, 0, 0);
    }

    static void term5_PRINT_and_TURN_ink_all_64_cells_of_a_side() {
        FoldPress x = press();
        T.due(x.sheet(0, 8, 8), 4);
        for (int n = 0; n < 128; n++) {
            x.put(4, n / 64, n / 8 % 8, n % 8, 1, 0);
        }
        x.feed(4);
        steps(x, 2);
        T.due(x.told(3), 64 * 'A');
        x.step();
        T.due(x.told(3), 128 * 'A');
    }

    static void term5_PRINT_of_the_last_cell_alone_meets_its_finding() {
        FoldPress x = press();
        T.due(x.sheet(0, 8, 8), 4);
        x.put(4, FRONT, 7, 7, 2, 0);
        x.feed(4);
        x.step();
        T.due(x.step(), 0);
        stands(x, 4, SPOILT, 0, BLANK);
    }

    static void term5_PRINT_of_a_TORN_row_without_cells_is_BLANK() {
        FoldPress x = new FoldPress();
        x.job(1, 1);
        x.sheet(0, 2, 0);
        x.tear(0, FRONT, 1);
        x.feed(0);
        x.step();
        spoils(x, BLANK);
    }

    static void term5_PRINT_of_a_sheet_without_cells_goes_well() {
        FoldPress x = press();
        x.feed(3);
        steps(x, 3);
        T.due(x.state(3, 0), FOLD);
    }

    static void term5_PRINT_of_a_page_that_the_job_has_not_is_BLANK() {
        FoldPress x = atStation(PRINT);
        x.put(0, FRONT, 0, 0, 4, 0);
        spoils(x, BLANK);
    }

    static void term5_PRINT_of_a_BLANK_page_is_BLANK() {
        FoldPress x = atStation(PRINT);
        x.put(0, FRONT, 0, 1, 2, 0);
        spoils(x, BLANK);
    }

    static void term5_PRINT_of_a_MISSING_row_is_BLANK() {
        FoldPress x = atStation(PRINT);
        x.miss(0, 1, 0);
        x.put(0, FRONT, 0, 0, 1, 0);
        spoils(x, BLANK);
    }

    static void term5_PRINT_of_a_page_without_rows_or_of_a_row_without_letters_is_BEYOND() {
        FoldPress x = atStation(PRINT);
        x.put(0, FRONT, 0, 0, 3, 0);
        spoils(x, BEYOND);
        FoldPress y = atStation(PRINT);
        y.row(0, 1, 0, 0);
        y.put(0, FRONT, 0, 0, 1, 0);
        spoils(y, BEYOND);
    }

    static void term5_PRINT_keeps_the_ink_of_what_came_ahead_of_its_finding() {
        FoldPress x = atStation(PRINT);
        x.put(0, FRONT, 0, 0, 1, 0);
        x.put(0, FRONT, 0, 1, 3, 0);
        spoils(x, BEYOND);
        T.due(x.told(3), 'A');
        FoldPress y = atStation(PRINT);
        y.put(0, FRONT, 0, 0, 3, 0);
        y.put(0, FRONT, 0, 1, 1, 0);
        spoils(y, BEYOND);
        T.due(y.told(3), 0);
    }

    static void term5_PRINT_goes_row_by_row_and_stops_at_a_TORN_one() {
        FoldPress x = press();
        x.put(2, FRONT, 0, 0, 1, 0);
        x.put(2, FRONT, 0, 1, 1, 0);
        x.tear(2, FRONT, 1);
        x.feed(2);
        x.step();
        T.due(x.step(), 0);
        stands(x, 2, SPOILT, 0, BLANK);
        T.due(x.told(3), 'A' + 'A');
    }

    static void term5_TURN_fails_as_PRINT_does() {
        FoldPress x = atStation(TURN);
        x.put(0, BACK, 0, 0, 1, 0);
        x.put(0, BACK, 0, 1, 2, 0);
        spoils(x, BLANK);
        T.due(x.told(3), 'A');
    }

    static void term5_FOLD_without_a_fold_told_is_BLANK_and_none_begins() {
        FoldPress x = press();
        x.feed(0);
        steps(x, 3);
        spoils(x, BLANK);
        T.due(x.told(6), 0);
    }

    static void term5_FOLD_by_a_fold_that_does_not_fit_is_UNFIT() {
        FoldPress x = atStation(FOLD);
        x.foldBy(0, THIRD);
        spoils(x, UNFIT);
        T.due(x.trace(0), 3);
    }

    static void term5_FOLD_that_leaves_more_than_one_pile_is_OPEN() {
        FoldPress x = atStation(FOLD);
        x.foldBy(0, FLAT);
        spoils(x, OPEN);
        T.due(x.trace(0), 1);
    }

    static void term5_FOLD_that_leaves_no_pile_is_OPEN() {
        FoldPress x = press();
        x.foldBy(3, HALF);
        x.feed(3);
        steps(x, 3);
        T.due(x.step(), 0);
        stands(x, 3, SPOILT, 0, OPEN);
    }

    static void term5_FOLD_of_a_TORN_sheet_goes_well() {
        FoldPress x = atStation(FOLD);
        x.tear(0, FRONT, 0);
        x.tear(0, BACK, 0);
        T.due(x.step(), 1);
    }

    static void term5_TRIM_of_just_the_margin_leaves_a_row_of_none_and_goes_well() {
        FoldPress x = atStation(TRIM);
        x.margin(1);
        T.due(x.step(), 1);
        stands(x, 0, GOOD, 0, 0);
    }

    static void term5_TRIM_of_one_more_than_the_margin_is_SIZE() {
        FoldPress x = atStation(TRIM);
        x.margin(0);
        spoils(x, SIZE);
    }

    static void term5_TRIM_with_the_margin_of_a_new_object_is_as_much_as_a_SHUT_needs() {
        FoldPress x = new FoldPress();
        x.job(1, 1);
        x.fold(SHUT, BY_COLUMNS);
        x.sheet(0, 1, 4);
        x.foldBy(0, 0);
        x.feed(0);
        steps(x, 4);
        T.due(x.step(), 1);
        stands(x, 0, GOOD, 0, 0);
    }

    static void term5_TRIM_with_no_margin_goes_well_by_a_NONE() {
        FoldPress x = atStation(TRIM);
        x.foldBy(0, FLAT);
        x.margin(0);
        T.due(x.step(), 1);
    }

    static void term5_TRIM_of_a_CROSS_above_the_largest_margin_is_SIZE() {
        FoldPress x = atStation(TRIM);
        x.cross(SHUT, SHUT);
        x.cross(7, SHUT);
        x.cross(8, HALF);
        x.margin(9);
        x.foldBy(0, 9);
        spoils(x, SIZE);
        FoldPress y = atStation(TRIM);
        y.cross(SHUT, SHUT);
        y.cross(7, SHUT);
        y.margin(9);
        y.foldBy(0, 8);
        T.due(y.step(), 1);
    }

    static void term5_TRIM_goes_by_the_fold_that_is_told_by_then() {
        FoldPress x = atStation(TRIM);
        x.margin(1);
        x.foldBy(0, GATE);
        spoils(x, SIZE);
        T.due(x.told(6), 1);
    }

    static void term5_a_sheet_is_at_REST_at_first() {
        stands(after(x -> x.sheet(0, 1, 1)).get(), 4, REST, -1, 0);
        T.due(press().feed(0), 0);
    }
}
