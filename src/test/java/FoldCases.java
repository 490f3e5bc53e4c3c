import java.util.function.Supplier;

/** The boundary cases of promises 15 to 21 and of part 2 of the Terms: folds. */
final class FoldCases extends Bench {
    /** press(), with so many folds, all further ones NONE. */
    private static Supplier<FoldPress> withFolds(int count) {
        return () -> {
            FoldPress x = press();
            for (int fold = 7; fold < count; fold++) {
                T.due(x.fold(FLAT, BY_COLUMNS), fold);
            }
            x.margin(8);
            return x;
        };
    }

    /** press(), with folds 7, 8, 9 that are crosses of 2, 4 and 8 SHUTs. */
    private static FoldPress withEight() {
        FoldPress x = press();
        T.due(x.cross(SHUT, SHUT), 7);
        T.due(x.cross(7, 7), 8);
        T.due(x.cross(8, 8), 9);
        x.margin(8);
        return x;
    }

    /** The trace of the latest folding, from its first number on. */
    private static void traced(FoldPress x, int... numbers) {
        for (int i = 0; i < numbers.length; i++) {
            T.due(x.trace(numbers.length - 1 - i), numbers[i]);
        }
    }

    /** The columns, and the sides above, of the leaves from above down of a fold of a row of piles. */
    private static void lies(FoldPress x, int fold, int columns, int... columnsAndSides) {
        T.due(x.faces(fold, 1, columns), columnsAndSides.length);
        for (int k = 0; k < columnsAndSides.length; k += 2) {
            T.due(x.face(fold, 1, columns, k, 2), columnsAndSides[k]);
            T.due(x.face(fold, 1, columns, k + 1, 2), columnsAndSides[k]);
            T.due(x.face(fold, 1, columns, k, 0), columnsAndSides[k + 1]);
            T.due(x.face(fold, 1, columns, k + 1, 0), 1 - columnsAndSides[k + 1]);
        }
    }

    // ---- 15: fold

    static void promise15_a_kind_below_0_is_OUTSIDE() {
        refused(x -> x.fold(-1, 0), OUTSIDE);
        refused(x -> x.fold(LOWEST, 0), OUTSIDE);
    }

    static void promise15_a_kind_above_4_is_OUTSIDE() {
        refused(x -> x.fold(5, 0), OUTSIDE);
        refused(x -> x.fold(HIGHEST, 0), OUTSIDE);
    }

    static void promise15_an_axis_below_0_is_OUTSIDE() {
        refused(x -> x.fold(1, -1), OUTSIDE);
        refused(x -> x.fold(1, LOWEST), OUTSIDE);
    }

    static void promise15_an_axis_above_1_is_OUTSIDE() {
        refused(x -> x.fold(1, 2), OUTSIDE);
        refused(x -> x.fold(1, HIGHEST), OUTSIDE);
    }

    static void promise15_the_axis_of_NONE_is_asked_too() {
        refused(x -> x.fold(0, 2), OUTSIDE);
        answers(x -> x.fold(0, 0), 7);
    }

    static void promise15_numbers_go_from_0_to_15() {
        FoldPress x = new FoldPress();
        for (int fold = 0; fold <= 15; fold++) {
            T.due(x.fold(fold % 5, fold % 2), fold);
        }
        T.due(x.told(8), 16);
        T.due(x.worth(15, 0), 1);
        T.due(x.worth(14, 0), 4);
    }

    static void promise15_a_17th_fold_is_FULL() {
        refused(withFolds(16), x -> x.fold(0, 0), FULL);
    }

    static void promise15_OUTSIDE_comes_ahead_of_FULL() {
        refused(withFolds(16), x -> x.fold(5, 0), OUTSIDE);
        refused(withFolds(16), x -> x.fold(0, 2), OUTSIDE);
    }

    static void promise15_JAMMED_comes_ahead_of_OUTSIDE() {
        jammedAheadOfAll(x -> x.fold(4, 1), x -> x.fold(5, 1));
    }

    static void promise15_undo_takes_it_back_and_nothing_before_it() {
        takenBack(x -> x.fold(4, 0));
    }

    // ---- 16: cross

    static void promise16_a_first_fold_that_is_not_there_is_NONE() {
        refused(x -> x.cross(7, 0), NONE);
        refused(x -> x.cross(-1, 0), NONE);
        refused(x -> x.cross(LOWEST, 0), NONE);
    }

    static void promise16_a_second_fold_that_is_not_there_is_NONE() {
        refused(x -> x.cross(0, 7), NONE);
        refused(x -> x.cross(0, -1), NONE);
        refused(x -> x.cross(0, HIGHEST), NONE);
    }

    static void promise16_a_cross_is_no_part_of_itself() {
        refused(x -> x.cross(7, 7), NONE);
    }

    static void promise16_a_cross_may_be_the_16th_fold() {
        FoldPress x = withFolds(15).get();
        T.due(x.cross(0, 1), 15);
        T.due(x.inner(15, 1), 1);
    }

    static void promise16_a_17th_fold_is_FULL() {
        refused(withFolds(16), x -> x.cross(0, 0), FULL);
    }

    static void promise16_NONE_comes_ahead_of_FULL() {
        refused(withFolds(16), x -> x.cross(16, 0), NONE);
        refused(withFolds(16), x -> x.cross(0, 16), NONE);
        refused(FoldCases::withEight, x -> x.cross(9, 10), NONE);
    }

    static void promise16_eight_folds_that_are_no_cross_are_not_too_many() {
        FoldPress x = withEight();
        T.due(x.inner(9, 0), 8);
        T.due(x.inner(9, 1), 8);
        T.due(x.worth(9, 1), 24);
    }

    static void promise16_nine_folds_that_are_no_cross_are_FULL() {
        refused(FoldCases::withEight, x -> x.cross(9, FLAT), FULL);
        refused(FoldCases::withEight, x -> x.cross(FLAT, 9), FULL);
        refused(FoldCases::withEight, x -> x.cross(9, 9), FULL);
    }

    static void promise16_five_and_four_are_FULL_and_five_and_three_are_not() {
        FoldPress x = withEight();
        T.due(x.cross(8, FLAT), 10);
        T.due(x.cross(10, 8), FULL);
        T.due(x.cross(8, 10), FULL);
        T.due(x.cross(7, HALF), 11);
        T.due(x.cross(10, 11), 12);
    }

    static void promise16_a_cross_counts_as_its_parts_and_not_as_itself() {
        FoldPress x = press();
        int all = HALF;
        for (int n = 2; n <= 8; n++) {
            all = x.cross(all, HALF);
            T.due(all, 5 + n);
        }
        T.due(x.cross(all, HALF), FULL);
        T.due(x.worth(all, 0), 256);
    }

    static void promise16_the_deepest_crosses_are_done_to_their_ends() {
        FoldPress x = press();
        FoldPress y = press();
        int first = FLAT;
        int second = FLAT;
        for (int n = 2; n <= 8; n++) {
            first = x.cross(first, FLAT);
            second = y.cross(FLAT, second);
        }
        T.due(x.faces(first, 1, 1), 2);
        T.due(x.told(6), 15);
        T.due(y.faces(second, 1, 1), 2);
        T.due(y.told(6), 15);
    }

    static void promise16_JAMMED_comes_ahead_of_NONE() {
        jammedAheadOfAll(x -> x.cross(0, 1), x -> x.cross(0, 7));
    }

    static void promise16_undo_takes_it_back_and_nothing_before_it() {
        takenBack(x -> x.cross(0, 1));
    }

    // ---- 17: lips

    static void promise17_a_fold_that_is_not_there_is_NONE() {
        refused(x -> x.lips(7), NONE);
        refused(x -> x.lips(-1), NONE);
        refused(x -> x.lips(LOWEST), NONE);
        refused(x -> x.lips(HIGHEST), NONE);
    }

    static void promise17_a_GATE_has_2_and_a_SHUT_3() {
        answers(x -> x.lips(GATE), 2);
        answers(x -> x.lips(SHUT), 3);
    }

    static void promise17_NONE_HALF_and_THIRD_are_KIND() {
        met(x -> x.lips(FLAT), KIND);
        met(x -> x.lips(HALF), KIND);
        met(x -> x.lips(THIRD), KIND);
    }

    static void promise17_a_CROSS_is_KIND_even_one_of_GATES() {
        met(x -> x.lips(CROSS), KIND);
        met(after(x -> x.cross(GATE, SHUT)), x -> x.lips(7), KIND);
    }

    // ---- 18: inner

    static void promise18_a_fold_that_is_not_there_is_NONE_ahead_of_OUTSIDE() {
        refused(x -> x.inner(7, 0), NONE);
        refused(x -> x.inner(-1, 2), NONE);
        refused(x -> x.inner(HIGHEST, -1), NONE);
    }

    static void promise18_which_below_0_or_above_1_is_OUTSIDE() {
        refused(x -> x.inner(CROSS, -1), OUTSIDE);
        refused(x -> x.inner(CROSS, 2), OUTSIDE);
        refused(x -> x.inner(CROSS, LOWEST), OUTSIDE);
        refused(x -> x.inner(CROSS, HIGHEST), OUTSIDE);
    }

    static void promise18_OUTSIDE_comes_ahead_of_KIND() {
        refused(x -> x.inner(HALF, 2), OUTSIDE);
        refused(x -> x.inner(HALF, -1), OUTSIDE);
    }

    static void promise18_every_fold_that_is_no_CROSS_is_KIND() {
        for (int fold = FLAT; fold <= ROWS; fold++) {
            int plain = fold;
            met(x -> x.inner(plain, 0), KIND);
            met(x -> x.inner(plain, 1), KIND);
        }
    }

    static void promise18_0_is_the_first_and_1_the_second() {
        answers(x -> x.inner(CROSS, 0), HALF);
        answers(x -> x.inner(CROSS, 1), ROWS);
    }

    // ---- 19: worth

    static void promise19_a_fold_that_is_not_there_is_NONE_ahead_of_OUTSIDE() {
        refused(x -> x.worth(7, 0), NONE);
        refused(x -> x.worth(-1, 2), NONE);
        refused(x -> x.worth(HIGHEST, -1), NONE);
    }

    static void promise19_what_below_0_or_above_1_is_OUTSIDE() {
        refused(x -> x.worth(HALF, -1), OUTSIDE);
        refused(x -> x.worth(HALF, 2), OUTSIDE);
        refused(x -> x.worth(HALF, LOWEST), OUTSIDE);
        refused(x -> x.worth(HALF, HIGHEST), OUTSIDE);
    }

    static void promise19_THICK_and_TRIM_of_each_kind() {
        int[] thick = {1, 2, 3, 2, 4, 2, 4};
        int[] trim = {0, 1, 1, 2, 3, 1, 2};
        FoldPress x = press();
        for (int fold = FLAT; fold <= CROSS; fold++) {
            T.due(x.worth(fold, 0), thick[fold]);
            T.due(x.worth(fold, 1), trim[fold]);
        }
    }

    static void promise19_the_largest_are_those_of_eight_SHUTS() {
        FoldPress x = withEight();
        T.due(x.worth(9, 0), 65536);
        T.due(x.worth(9, 1), 24);
    }

    static void promise19_the_smallest_of_a_CROSS_are_those_of_NONES() {
        FoldPress x = after(y -> y.cross(FLAT, FLAT)).get();
        T.due(x.worth(7, 0), 1);
        T.due(x.worth(7, 1), 0);
    }

    // ---- 20: face

    static void promise20_a_fold_that_is_not_there_is_NONE_ahead_of_OUTSIDE() {
        refused(x -> x.face(7, 1, 1, 0, 0), NONE);
        refused(x -> x.face(-1, 1, 1, 0, 4), NONE);
        refused(x -> x.face(HIGHEST, 9, -1, 0, -1), NONE);
    }

    static void promise20_what_below_0_or_above_3_is_OUTSIDE() {
        refused(x -> x.face(HALF, 1, 2, 0, -1), OUTSIDE);
        refused(x -> x.face(HALF, 1, 2, 0, 4), OUTSIDE);
        refused(x -> x.face(HALF, 1, 2, 0, LOWEST), OUTSIDE);
        refused(x -> x.face(HALF, 1, 2, 0, HIGHEST), OUTSIDE);
    }

    static void promise20_OUTSIDE_comes_ahead_of_all_findings() {
        refused(x -> x.face(HALF, 9, 2, 0, 4), OUTSIDE);
        refused(x -> x.face(HALF, 1, -1, 0, 4), OUTSIDE);
        refused(x -> x.face(HALF, 1, 3, 0, -1), OUTSIDE);
        refused(x -> x.face(HALF, 2, 2, 0, -1), OUTSIDE);
        refused(x -> x.face(HALF, 1, 2, 4, 4), OUTSIDE);
    }

    static void promise20_nine_rows_or_columns_are_LARGE() {
        met(x -> x.face(FLAT, 9, 1, 0, 0), LARGE);
        met(x -> x.face(FLAT, 1, 9, 0, 0), LARGE);
        met(x -> x.face(FLAT, HIGHEST, 1, 0, 0), LARGE);
        met(x -> x.face(FLAT, 1, HIGHEST, 0, 0), LARGE);
    }

    static void promise20_eight_rows_and_columns_are_not_LARGE() {
        met(x -> x.face(FLAT, 8, 8, 0, 0), OPEN);
    }

    static void promise20_rows_or_columns_below_0_are_SIZE() {
        met(x -> x.face(FLAT, -1, 1, 0, 0), SIZE);
        met(x -> x.face(FLAT, 1, -1, 0, 0), SIZE);
        met(x -> x.face(FLAT, LOWEST, 1, 0, 0), SIZE);
        met(x -> x.face(FLAT, 1, LOWEST, 0, 0), SIZE);
    }

    static void promise20_LARGE_comes_ahead_of_SIZE() {
        met(x -> x.face(FLAT, 9, -1, 0, 0), LARGE);
        met(x -> x.face(FLAT, -1, 9, 0, 0), LARGE);
    }

    static void promise20_LARGE_and_SIZE_come_ahead_of_UNFIT_and_begin_no_fold() {
        FoldPress x = press();
        T.due(x.face(HALF, 1, 9, 0, 0), LARGE);
        T.due(x.face(HALF, 1, -1, 0, 0), SIZE);
        T.due(x.told(6), 0);
    }

    static void promise20_UNFIT_comes_ahead_of_OPEN_and_BEYOND() {
        met(x -> x.face(HALF, 2, 3, 99, 0), UNFIT);
        met(x -> x.face(HALF, 1, 1, -1, 0), UNFIT);
    }

    static void promise20_OPEN_comes_ahead_of_BEYOND() {
        met(x -> x.face(HALF, 2, 2, -1, 0), OPEN);
        met(x -> x.face(HALF, 1, 4, 99, 0), OPEN);
    }

    static void promise20_a_face_below_0_is_BEYOND() {
        met(x -> x.face(HALF, 1, 2, -1, 0), BEYOND);
        met(x -> x.face(HALF, 1, 2, LOWEST, 0), BEYOND);
    }

    static void promise20_the_face_behind_the_last_is_BEYOND() {
        met(x -> x.face(HALF, 1, 2, 4, 0), BEYOND);
        met(x -> x.face(FLAT, 1, 1, 2, 0), BEYOND);
        met(x -> x.face(HALF, 1, 2, HIGHEST, 0), BEYOND);
    }

    static void promise20_the_first_and_the_last_face_are_there() {
        FoldPress x = press();
        int[] first = {1, 0, 1, 0};
        int[] last = {1, 0, 0, 0};
        for (int what = 0; what <= 3; what++) {
            T.due(x.face(HALF, 1, 2, 0, what), first[what]);
            T.due(x.face(HALF, 1, 2, 3, what), last[what]);
        }
    }

    static void promise20_a_face_BEYOND_leaves_its_fold_in_the_trace() {
        FoldPress x = press();
        T.due(x.face(HALF, 1, 2, 4, 0), BEYOND);
        T.due(x.told(6), 1);
        T.due(x.trace(0), 2);
    }

    static void promise20_it_answers_while_the_press_is_JAMMED() {
        T.due(jammedPress().face(HALF, 1, 2, 0, 0), 1);
        T.due(jammedPress().face(HALF, 1, 3, 0, 0), UNFIT);
    }

    // ---- 21: faces

    static void promise21_a_fold_that_is_not_there_is_NONE_ahead_of_LARGE() {
        refused(x -> x.faces(7, 9, 1), NONE);
        refused(x -> x.faces(-1, 1, -1), NONE);
        refused(x -> x.faces(LOWEST, 1, 1), NONE);
    }

    static void promise21_nine_rows_or_columns_are_LARGE_ahead_of_SIZE() {
        met(x -> x.faces(FLAT, 9, 1), LARGE);
        met(x -> x.faces(FLAT, 1, 9), LARGE);
        met(x -> x.faces(FLAT, 9, -1), LARGE);
        met(x -> x.faces(FLAT, -1, 9), LARGE);
        met(x -> x.faces(FLAT, HIGHEST, LOWEST), LARGE);
    }

    static void promise21_rows_or_columns_below_0_are_SIZE() {
        met(x -> x.faces(FLAT, -1, 1), SIZE);
        met(x -> x.faces(FLAT, 1, -1), SIZE);
        met(x -> x.faces(FLAT, LOWEST, 8), SIZE);
        met(x -> x.faces(FLAT, 8, LOWEST), SIZE);
    }

    static void promise21_UNFIT_comes_ahead_of_OPEN() {
        met(x -> x.faces(HALF, 2, 3), UNFIT);
        met(x -> x.faces(HALF, 1, 3), UNFIT);
        met(x -> x.faces(HALF, 2, 2), OPEN);
    }

    static void promise21_LARGE_and_SIZE_begin_no_fold() {
        FoldPress x = press();
        x.faces(HALF, 1, 9);
        x.faces(HALF, -1, 1);
        T.due(x.told(6), 0);
        T.due(x.trace(0), NONE);
    }

    static void promise21_the_fewest_faces_are_2() {
        answers(x -> x.faces(FLAT, 1, 1), 2);
    }

    static void promise21_the_most_faces_are_128() {
        FoldPress x = press();
        T.due(x.cross(CROSS, CROSS), 7);
        T.due(x.cross(7, CROSS), 8);
        T.due(x.faces(8, 8, 8), 128);
        T.due(x.face(8, 8, 8, 128, 0), BEYOND);
        boolean[] had = new boolean[128];
        for (int k = 0; k < 128; k++) {
            int side = x.face(8, 8, 8, k, 0);
            had[(side * 8 + x.face(8, 8, 8, k, 1)) * 8 + x.face(8, 8, 8, k, 2)] = true;
        }
        for (boolean one : had) {
            T.holds(one, "a side of a leaf is no face");
        }
    }

    static void promise21_it_answers_while_the_press_is_JAMMED() {
        T.due(jammedPress().faces(HALF, 1, 2), 4);
    }

    // ---- part 2 of the Terms

    /** Of 0 to 8 piles in a row, how many are left by a fold, or UNFIT. */
    private static void leaves(int fold, int... left) {
        for (int n = 0; n <= 8; n++) {
            int columns = n;
            int want = left[n] == UNFIT ? UNFIT : left[n] == 1 ? 2 * n : OPEN;
            answers(x -> x.faces(fold, 1, columns), want);
        }
    }

    static void term2_NONE_fits_every_number_of_piles() {
        leaves(FLAT, 0, 1, 2, 3, 4, 5, 6, 7, 8);
    }

    static void term2_HALF_is_UNFIT_but_for_even_numbers_0_among_them() {
        leaves(HALF, 0, UNFIT, 1, UNFIT, 2, UNFIT, 3, UNFIT, 4);
    }

    static void term2_THIRD_is_UNFIT_but_for_0_3_and_6() {
        leaves(THIRD, 0, UNFIT, UNFIT, 1, UNFIT, UNFIT, 2, UNFIT, UNFIT);
    }

    static void term2_GATE_is_UNFIT_but_for_0_4_and_8() {
        leaves(GATE, 0, UNFIT, UNFIT, UNFIT, 2, UNFIT, UNFIT, UNFIT, 4);
    }

    static void term2_SHUT_is_UNFIT_but_for_0_4_and_8() {
        leaves(SHUT, 0, UNFIT, UNFIT, UNFIT, 1, UNFIT, UNFIT, UNFIT, 2);
    }

    static void term2_axis_0_asks_for_the_rows_alone() {
        answers(x -> x.faces(ROWS, 2, 1), 4);
        answers(x -> x.faces(ROWS, 1, 2), UNFIT);
        answers(x -> x.faces(ROWS, 2, 3), OPEN);
    }

    static void term2_axis_1_asks_for_the_columns_alone() {
        answers(x -> x.faces(HALF, 1, 2), 4);
        answers(x -> x.faces(HALF, 2, 1), UNFIT);
        answers(x -> x.faces(HALF, 3, 2), OPEN);
    }

    static void term2_a_grid_without_piles_is_OPEN_by_every_fold() {
        for (int fold = FLAT; fold <= CROSS; fold++) {
            int any = fold;
            answers(x -> x.faces(any, 0, 0), OPEN);
        }
    }

    static void term2_a_grid_of_0_rows_or_of_0_columns_is_OPEN() {
        answers(x -> x.faces(FLAT, 0, 1), OPEN);
        answers(x -> x.faces(FLAT, 1, 0), OPEN);
        answers(x -> x.faces(ROWS, 0, 1), OPEN);
        answers(x -> x.faces(HALF, 1, 0), OPEN);
        answers(x -> x.faces(HALF, 0, 2), OPEN);
    }

    static void term2_a_grid_of_0_rows_has_its_columns_all_the_same_and_one_of_0_columns_its_rows() {
        met(x -> x.faces(HALF, 0, 3), UNFIT);
        met(x -> x.faces(ROWS, 3, 0), UNFIT);
        met(x -> x.faces(THIRD, 0, 2), UNFIT);
        met(x -> x.faces(THIRD, 0, 3), OPEN);
        met(x -> x.faces(GATE, 0, 6), UNFIT);
        met(x -> x.faces(SHUT, 0, 8), OPEN);
        FoldPress x = press();
        x.faces(CROSS, 0, 3);
        T.due(x.told(6), 2);
        T.due(x.faces(CROSS, 3, 0), UNFIT);
        T.due(x.told(6), 5);
    }

    static void term2_two_piles_left_are_OPEN_in_a_row_and_in_a_column() {
        answers(x -> x.faces(FLAT, 1, 2), OPEN);
        answers(x -> x.faces(FLAT, 2, 1), OPEN);
        answers(x -> x.faces(GATE, 1, 4), OPEN);
    }

    static void term2_at_first_each_leaf_has_its_front_above() {
        FoldPress x = press();
        lies(x, FLAT, 1, 0, 0);
        T.due(x.face(FLAT, 1, 1, 0, 1), 0);
        T.due(x.face(FLAT, 1, 1, 0, 3), 0);
    }

    static void term2_HALF_of_four_lays_the_inner_pair_and_the_outer_pair() {
        FoldPress x = press();
        T.due(x.cross(HALF, HALF), 7);
        lies(x, 7, 4, 1, 1, 2, 0, 3, 1, 0, 0);
    }

    static void term2_THIRD_of_three_has_the_first_pile_above_the_last() {
        lies(press(), THIRD, 3, 0, 1, 2, 1, 1, 0);
    }

    static void term2_THIRD_of_six_has_all_of_the_first_third_above_the_last() {
        FoldPress x = press();
        T.due(x.cross(THIRD, HALF), 7);
        lies(x, 7, 6, 3, 1, 4, 0, 0, 0, 1, 1, 5, 1, 2, 0);
    }

    static void term2_GATE_of_four_lays_each_lip_on_its_neighbour() {
        FoldPress x = press();
        T.due(x.cross(GATE, HALF), 7);
        lies(x, 7, 4, 2, 1, 3, 0, 0, 1, 1, 0);
    }

    static void term2_GATE_of_eight_lays_the_lips_two_wide() {
        FoldPress x = press();
        T.due(x.cross(GATE, SHUT), 7);
        lies(x, 7, 8, 4, 1, 7, 0, 6, 1, 5, 0, 2, 1, 1, 0, 0, 1, 3, 0);
    }

    /** The rows, and the sides above, of the leaves from above down of a fold of a column of piles. */
    private static void liesByRows(FoldPress x, int fold, int rows, int... rowsAndSides) {
        T.due(x.faces(fold, rows, 1), rowsAndSides.length);
        for (int k = 0; k < rowsAndSides.length; k += 2) {
            T.due(x.face(fold, rows, 1, k, 1), rowsAndSides[k]);
            T.due(x.face(fold, rows, 1, k, 0), rowsAndSides[k + 1]);
            T.due(x.face(fold, rows, 1, k, 3), rowsAndSides[k + 1]);
            T.due(x.face(fold, rows, 1, k, 2), 0);
        }
    }

    static void term2_by_axis_0_every_kind_lays_rows_as_by_axis_1_columns() {
        FoldPress x = press();
        T.due(x.fold(THIRD, BY_ROWS), 7);
        T.due(x.fold(GATE, BY_ROWS), 8);
        T.due(x.fold(SHUT, BY_ROWS), 9);
        T.due(x.cross(8, 9), 10);
        liesByRows(x, 7, 3, 0, 1, 2, 1, 1, 0);
        liesByRows(x, 9, 4, 2, 1, 3, 0, 0, 1, 1, 0);
        liesByRows(x, 10, 8, 4, 1, 7, 0, 6, 1, 5, 0, 2, 1, 1, 0, 0, 1, 3, 0);
        liesByRows(x, ROWS, 2, 1, 1, 0, 0);
        T.due(x.faces(FLAT, 1, 1), 2);
        T.due(x.face(FLAT, 1, 1, 0, 1), 0);
    }

    static void term2_a_grid_folds_the_same_each_time() {
        FoldPress x = press();
        T.due(x.fold(THIRD, BY_ROWS), 7);
        T.due(x.cross(THIRD, 7), 8);
        for (int n = 0; n < 3; n++) {
            T.due(x.face(8, 3, 3, 0, 1), 0);
            T.due(x.face(8, 3, 3, 0, 2), 1);
            T.due(x.face(8, 3, 3, 17, 1), 1);
            T.due(x.face(8, 3, 3, 17, 2), 1);
            T.due(x.face(FLAT, 1, 1, 0, 1), 0);
            T.due(x.face(FLAT, 1, 1, 0, 2), 0);
        }
    }

    static void term2_SHUT_is_a_GATE_halved() {
        lies(press(), SHUT, 4, 2, 1, 3, 0, 0, 1, 1, 0);
    }

    static void term2_turned_over_by_axis_0_alone_lies_the_other_way_up() {
        FoldPress x = press();
        T.due(x.face(ROWS, 2, 1, 0, 3), 1);
        T.due(x.face(ROWS, 2, 1, 1, 3), 1);
        T.due(x.face(ROWS, 2, 1, 2, 3), 0);
        for (int k = 0; k < 4; k++) {
            T.due(x.face(HALF, 1, 2, k, 3), 0);
        }
    }

    static void term2_turned_over_twice_by_axis_0_lies_as_before() {
        FoldPress x = press();
        T.due(x.cross(ROWS, ROWS), 7);
        int[] rows = {1, 2, 3, 0};
        int[] ups = {1, 0, 1, 0};
        for (int leaf = 0; leaf < 4; leaf++) {
            T.due(x.face(7, 4, 1, 2 * leaf, 1), rows[leaf]);
            T.due(x.face(7, 4, 1, 2 * leaf, 3), ups[leaf]);
        }
    }

    static void term2_a_CROSS_does_its_first_fold_first() {
        FoldPress x = press();
        T.due(x.cross(THIRD, HALF), 7);
        T.due(x.cross(HALF, THIRD), 8);
        T.due(x.face(7, 1, 6, 0, 2), 3);
        lies(x, 8, 6, 0, 1, 5, 0, 2, 1, 3, 0, 4, 1, 1, 0);
    }

    static void term2_a_CROSS_of_all_eight_is_done_each_time() {
        FoldPress x = press();
        int all = x.cross(FLAT, FLAT);
        all = x.cross(all, all);
        all = x.cross(all, all);
        T.due(x.faces(all, 1, 1), 2);
        T.due(x.told(6), 15);
        traced(x, 6, 6, 6, 1, 1, 6, 1, 1, 6, 6, 1, 1, 6, 1, 1);
    }

    static void term2_each_kind_has_its_number_in_the_trace() {
        FoldPress x = press();
        x.faces(FLAT, 1, 1);
        traced(x, 1);
        x.faces(HALF, 1, 2);
        traced(x, 1, 2);
        x.faces(THIRD, 1, 3);
        traced(x, 1, 2, 3);
        x.faces(GATE, 1, 4);
        traced(x, 1, 2, 3, 4);
        T.due(x.told(6), 4);
    }

    static void term2_SHUT_is_traced_as_5_then_4_then_2() {
        FoldPress x = press();
        x.faces(SHUT, 1, 4);
        T.due(x.told(6), 3);
        traced(x, 5, 4, 2);
    }

    static void term2_an_UNFIT_fold_is_in_the_trace_already() {
        FoldPress x = press();
        T.due(x.faces(HALF, 1, 1), UNFIT);
        T.due(x.faces(THIRD, 1, 1), UNFIT);
        T.due(x.faces(GATE, 1, 1), UNFIT);
        T.due(x.told(6), 3);
        traced(x, 2, 3, 4);
    }

    static void term2_an_UNFIT_SHUT_is_traced_as_5_then_4_and_does_not_halve() {
        FoldPress x = press();
        T.due(x.faces(SHUT, 1, 2), UNFIT);
        T.due(x.told(6), 2);
        traced(x, 5, 4);
    }

    static void term2_a_CROSS_whose_first_is_UNFIT_does_not_begin_its_second() {
        FoldPress x = press();
        T.due(x.faces(CROSS, 2, 1), UNFIT);
        T.due(x.told(6), 2);
        traced(x, 6, 2);
    }

    static void term2_a_CROSS_whose_second_is_UNFIT_has_begun_both() {
        FoldPress x = press();
        T.due(x.faces(CROSS, 1, 2), UNFIT);
        T.due(x.told(6), 3);
        traced(x, 6, 2, 2);
    }

    static void term2_an_OPEN_fold_is_in_the_trace() {
        FoldPress x = press();
        T.due(x.faces(HALF, 2, 2), OPEN);
        T.due(x.faces(FLAT, 0, 0), OPEN);
        T.due(x.told(6), 2);
        traced(x, 2, 1);
    }
}
