/** The boundary cases of the Terms that hold for all calls: findings, changes, refusals; and of part 1 of them. */
final class TermCases extends Bench {
    // ---- findings

    static void term0_each_finding_answers_minus_10_less_its_number() {
        FoldPress x = press();
        T.due(x.at(0, 2, 0, 0), -10 - 1);
        T.due(x.at(0, 1, 9, 0), -10 - 2);
        T.due(x.rows(0, 1, -1), -10 - 3);
        T.due(x.rows(0, 1, 9), -10 - 4);
        T.due(x.move(0, 2, 0, 1, 0, 1, 0), -10 - 5);
        T.due(x.lips(HALF), -10 - 6);
        T.due(x.faces(HALF, 1, 1), -10 - 7);
        T.due(x.faces(FLAT, 0, 0), -10 - 8);
        T.due(x.told(0), 8);
        x.doubled();
        x.feed(0);
        x.step();
        T.due(x.told(1), 9);
        x.jam(FEED);
        x.feed(1);
        x.step();
        T.due(x.told(1), 10);
        T.due(x.told(0), 10);
    }

    static void term0_FOUND_counts_calls_that_change_calls_that_ask_and_steps() {
        FoldPress x = press();
        x.rows(0, 1, 9);
        T.due(x.told(0), 1);
        x.size(0, 2, -1);
        T.due(x.told(0), 2);
        x.doubled();
        x.feed(0);
        x.step();
        T.due(x.told(0), 3);
    }

    static void term0_refusals_are_no_findings() {
        FoldPress x = new FoldPress();
        x.page(0);
        x.job(0, 0);
        x.signature(0);
        x.add(0);
        T.due(x.add(0), BUSY);
        x.signature(0);
        x.signature(0);
        x.signature(0);
        T.due(x.signature(0), FULL);
        T.due(x.told(0), 0);
        T.due(x.told(1), 0);
    }

    static void term0_an_object_holds_for_512_calls() {
        FoldPress x = new FoldPress();
        x.fold(HALF, BY_COLUMNS);
        for (int n = 2; n <= MOST_CALLS - 4; n++) {
            T.due(x.faces(0, 1, 1), UNFIT);
        }
        T.due(x.told(0), MOST_CALLS - 5);
        T.due(x.told(6), MOST_CALLS - 5);
        T.due(x.trace(39), 2);
        T.due(x.undo(), 1);
    }

    static void term0_512_findings_count_and_the_512th_call_answers() {
        FoldPress x = new FoldPress();
        x.fold(0, 0);
        for (int n = 0; n < MOST_CALLS - 2; n++) {
            x.lips(0);
        }
        T.due(x.told(0), MOST_CALLS - 2);
    }

    // ---- changes and refusals

    static void term0_a_change_that_a_finding_stops_is_the_latest_change() {
        FoldPress x = press();
        T.due(x.rows(0, 1, 9), LARGE);
        T.due(x.undo(), 1);
        T.due(x.told(12), 7);
        T.due(x.undo(), 0);
    }

    static void term0_a_call_that_asks_is_no_change_whether_or_not_it_meets_a_finding() {
        FoldPress x = press();
        x.at(0, 1, 0, 0);
        x.at(0, 2, 0, 0);
        x.size(0, 1, -1);
        x.moved();
        x.lips(GATE);
        x.inner(CROSS, 0);
        x.worth(HALF, 0);
        x.face(HALF, 1, 2, 0, 0);
        x.faces(HALF, 1, 1);
        x.cell(0, 0, 0, 0, 0);
        x.read(0, HALF, 0);
        x.seen(0, 0, 0, 0, 0, 0);
        x.leaf(0, HALF, 0, 0);
        x.creep(0, HALF, 0);
        x.pageAt(HALF, 0);
        x.wrap(HALF, 0);
        x.state(0, 0);
        x.good(0);
        x.told(0);
        x.trace(0);
        x.about(0, 0);
        T.due(x.undo(), 1);
        T.due(x.told(12), 3);
    }

    static void term0_calls_that_ask_answer_while_JAMMED_as_ever() {
        FoldPress x = jammedPress();
        FoldPress y = jammedPress();
        y.clear();
        Call[] asks = {
            z -> z.at(0, 1, 0, 0), z -> z.size(0, 1, -1), FoldPress::moved, z -> z.lips(GATE), z -> z.inner(CROSS, 0),
            z -> z.worth(HALF, 0), z -> z.face(HALF, 1, 2, 0, 0), z -> z.faces(HALF, 1, 2),
            z -> z.cell(0, 0, 0, 0, 0), z -> z.read(0, HALF, 0), z -> z.seen(0, 0, 0, 0, 0, 0),
            z -> z.leaf(0, HALF, 0, 0), z -> z.creep(0, HALF, 0), z -> z.pageAt(HALF, 0), z -> z.wrap(HALF, 0),
            z -> z.state(0, 0), z -> z.good(0), z -> z.told(0), z -> z.trace(0), z -> z.about(0, 0),
        };
        for (Call ask : asks) {
            int answer = ask.applyAsInt(x);
            T.due(answer, ask.applyAsInt(y));
            T.holds(answer != JAMMED, "a call that asks is refused while JAMMED");
        }
    }

    static void term0_while_JAMMED_every_change_but_clear_is_refused() {
        Call[] changes = {
            x -> x.job(1, 1), x -> x.page(0), x -> x.blank(0, 1), x -> x.rows(0, 1, 1), x -> x.row(0, 1, 0, 1),
            x -> x.miss(0, 1, 0), x -> x.letter(0, 1, 0, 0, 65), x -> x.move(0, 1, 0, 1, 1, 1, 1),
            x -> x.cut(0, 1, 1), x -> x.join(0, 1), x -> x.fold(0, 0), x -> x.cross(0, 0), x -> x.sheet(0, 1, 1),
            x -> x.tear(0, 0, 0), x -> x.put(0, 0, 0, 0, 1, 0), x -> x.shift(0, 0, 0, 1, 0, 0, 1, 1),
            x -> x.lay(0, HALF, 1), x -> x.signature(0), x -> x.gather(0, 0), x -> x.bind(0, HALF, 1), x -> x.add(0),
            x -> x.cover(0), x -> x.foldBy(0, HALF), x -> x.margin(1), x -> x.feed(0), FoldPress::doubled,
            x -> x.jam(0), FoldPress::step, x -> x.reprint(1), FoldPress::undo,
        };
        for (Call change : changes) {
            refused(Bench::jammedPress, change, JAMMED);
        }
        T.due(jammedPress().clear(), 1);
    }

    static void term0_after_clear_changes_are_done_again() {
        FoldPress x = jammedPress();
        x.clear();
        T.due(x.reprint(1), 1);
        T.due(x.feed(1), 1);
        T.due(x.step(), 1);
        T.due(x.undo(), 1);
    }

    static void term0_a_refused_call_leaves_the_latest_finding_told() {
        FoldPress x = press();
        x.lips(HALF);
        x.job(0, 0);
        x.page(9);
        T.due(x.told(1), 6);
        T.due(x.told(0), 1);
    }

    // ---- part 1 of the Terms

    static void term1_a_page_is_BLANK_at_first() {
        FoldPress x = press();
        T.due(x.page(1), 1);
        T.due(x.size(1, 1, -1), BLANK);
        T.due(x.size(1, 1, 0), BLANK);
    }

    static void term1_a_row_is_MISSING_at_first() {
        FoldPress x = press();
        x.rows(0, 2, 8);
        for (int i = 0; i < 8; i++) {
            T.due(x.size(0, 2, i), BLANK);
        }
    }

    static void term1_a_letter_is_32_at_first() {
        FoldPress x = press();
        x.rows(0, 2, 1);
        x.row(0, 2, 0, 10);
        reads(x, 2, 0, "          ");
    }

    static void term1_jobs_pages_rows_and_letters_at_their_most_do_not_touch_one_another() {
        FoldPress x = new FoldPress();
        int[] pages = {1, 24};
        for (int job = 0; job < 3; job++) {
            x.job(8, 10);
            for (int page = 1; page <= 24; page++) {
                x.page(job);
            }
        }
        for (int job = 2; job >= 0; job--) {
            for (int page : pages) {
                x.rows(job, page, 8);
                x.row(job, page, 0, 10);
                x.row(job, page, 7, 10);
                x.letter(job, page, 0, 0, 40 + 2 * job + page);
                x.letter(job, page, 7, 9, 80 + 2 * job + page);
            }
        }
        for (int job = 0; job < 3; job++) {
            for (int page : pages) {
                T.due(x.at(job, page, 0, 0), 40 + 2 * job + page);
                T.due(x.at(job, page, 0, 9), 32);
                T.due(x.at(job, page, 7, 0), 32);
                T.due(x.at(job, page, 7, 9), 80 + 2 * job + page);
            }
        }
    }
}
