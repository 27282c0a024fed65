/** The bounds in a tick, (a) to (d): what is 0 at least, so much at most, rounded down, cut. */
public final class TickBoundsTest {
    public static void main(String[] args) throws Exception {
        Sentences.runAll(TickBoundsTest.class);
    }

    private static String head(String limits, String rest) {
        return "host " + limits + " " + rest + ";";
    }

    /** Behind two ticks 99 pages are in flight, behind each more there are 99 at the tick's end. */
    private static WriterPace full(int speed, String lines) {
        WriterPace x = Texts.told(head("limit 999 background 0 age 99", "pause 9 window 999 chunk 99 queue 99")
                + "device speed " + speed + ";file on 0;writer to 0 wants 99;" + lines);
        x.ticks(2);
        Check.due("in flight", x.device(0, 1), 99);
        Check.due("credit while none was in flight", x.device(0, 3), 0);
        return x;
    }

    private static void creditAndWritten(WriterPace x, int written, int credit) {
        Check.due("written", x.ticks(1), written);
        Check.due("credit", x.device(0, 3), credit);
    }

    // ---- at first

    static void term_at_first_all_is_0_and_the_estimate_is_the_speed() {
        WriterPace x = Texts.told(head("limit 9 background 0 age 1", "pause 1 window 1 chunk 1 queue 1")
                + "device speed 0;device speed 999;file on 1;writer to 0 wants 99;");
        for (int what : new int[] {1, 2, 3, 5, 7, 8}) {
            Check.due("device(1, " + what + ")", x.device(1, what), 0);
        }
        Check.due("estimate of 0", x.device(0, 4), 0);
        Check.due("estimate of 999", x.device(1, 4), 999000);
        Check.due("dirty", x.file(0, 1), 0);
        Check.due("since no tick", x.file(0, 2), -1);
        for (int what = 2; what <= 5; what++) {
            Check.due("writer(0, " + what + ")", x.writer(0, what), 0);
        }
        for (int what = 3; what <= 9; what++) {
            Check.due("count(" + what + ")", x.count(what), 0);
        }
    }

    static void term_the_first_tick_is_number_1() {
        WriterPace x = full(0, "");
        Check.due("two ticks were", x.count(3), 2);
        WriterPace y = Texts.told(head("limit 9 background 0 age 1", "pause 1 window 2 chunk 1 queue 1")
                + "device speed 0;file on 0;writer to 0 wants 0;wants : time;");
        y.ticks(1);
        Check.due("time is 1 in it", y.writer(0, 4), 1);
    }

    // ---- (a)

    static void term_a_a_page_is_written_for_each_100_of_credit() {
        WriterPace x = full(99, "");
        creditAndWritten(x, 0, 99);
        creditAndWritten(x, 1, 98);
        WriterPace y = full(100, "");
        creditAndWritten(y, 1, 0);
        creditAndWritten(y, 1, 0);
        WriterPace z = full(199, "");
        creditAndWritten(z, 1, 99);
        creditAndWritten(z, 2, 98);
    }

    static void term_a_a_device_of_speed_0_writes_none_and_one_of_999_ten() {
        WriterPace x = full(0, "");
        creditAndWritten(x, 0, 0);
        WriterPace y = full(999, "");
        creditAndWritten(y, 9, 99);
        creditAndWritten(y, 10, 98);
    }

    static void term_a_the_law_tells_0_at_least() {
        WriterPace x = full(500, "speed : if time = 3 then 50 else 0 - told end;");
        creditAndWritten(x, 0, 50);
        creditAndWritten(x, 0, 50);
        WriterPace y = full(500, "speed : 0 - 1;");
        creditAndWritten(y, 0, 0);
        WriterPace z = full(500, "speed : 1 - 1;");
        creditAndWritten(z, 0, 0);
        WriterPace u = full(500, "speed : 2 - 1;");
        creditAndWritten(u, 0, 1);
    }

    static void term_a_the_law_tells_999_at_most() {
        WriterPace x = full(0, "speed : 999 + 1;");
        creditAndWritten(x, 9, 99);
        WriterPace y = full(0, "speed : 998 + 1;");
        creditAndWritten(y, 9, 99);
        WriterPace z = full(0, "speed : 998;");
        creditAndWritten(z, 9, 98);
        WriterPace u = full(0, "speed : 999 * 999;");
        creditAndWritten(u, 9, 99);
    }

    static void term_a_pages_are_written_as_long_as_there_are_some_in_flight() {
        WriterPace x = Texts.told(head("limit 999 background 0 age 99", "pause 9 window 999 chunk 99 queue 9")
                + "device speed 999;file on 0;writer to 0 wants 99;");
        x.ticks(2);
        Check.due("in flight", x.device(0, 1), 9);
        // Nine by 999: none is left, and so no credit; at the tick's end there are nine others.
        creditAndWritten(x, 9, 0);
        creditAndWritten(x, 9, 0);
        WriterPace y = Texts.told(head("limit 999 background 0 age 99", "pause 9 window 999 chunk 99 queue 10")
                + "device speed 999;file on 0;writer to 0 wants 99;");
        y.ticks(2);
        // Ten by 999: one is left, and the credit stays; then ten by 1098.
        creditAndWritten(y, 9, 99);
        creditAndWritten(y, 10, 0);
    }

    static void term_a_credit_is_0_if_none_is_in_flight() {
        WriterPace x = Texts.told(head("limit 999 background 0 age 99", "pause 9 window 999 chunk 99 queue 10")
                + "device speed 70;device speed 70;file on 0;writer to 0 wants 1;");
        x.ticks(2);
        Check.due("none was in flight", x.device(0, 3), 0);
        x.ticks(1);
        Check.due("one is in flight", x.device(0, 3), 70);
        Check.due("an idle one", x.device(1, 3), 0);
        x.wants(0, 0);
        x.ticks(9);
        Check.due("all is written", x.count(4), 0);
        Check.due("credit", x.device(0, 3), 0);
    }

    static void term_a_without_a_law_its_speed_counts() {
        WriterPace x = full(100, "wants : 99;");
        creditAndWritten(x, 1, 0);
        x.speed(0, 250);
        creditAndWritten(x, 2, 50);
    }

    // ---- (b)

    static void term_b_a_window_of_1_ends_with_each_tick() {
        WriterPace x = Texts.told(head("limit 999 background 0 age 99", "pause 9 window 1 chunk 99 queue 99")
                + "device speed 300;file on 0;writer to 0 wants 99;");
        x.ticks(3);
        Check.due("count", x.device(0, 5), 3);
        Check.due("since the window", x.device(0, 8), 0);
        x.ticks(1);
        Check.due("count by 2 and 3", x.device(0, 5), 4);
    }

    static void term_b_a_window_of_999_ends_with_tick_999() {
        WriterPace x = Texts.told(head("limit 999 background 0 age 99", "pause 9 window 999 chunk 99 queue 99")
                + "device speed 100;file on 0;writer to 0 wants 99;");
        Check.due("written", x.ticks(998), 996);
        Check.due("since the first tick", x.device(0, 8), 996);
        Check.due("count", x.device(0, 5), 0);
        x.ticks(1);
        Check.due("since the window", x.device(0, 8), 0);
        Check.due("count", x.device(0, 5), 997);
        x.ticks(998);
        Check.due("since the window", x.device(0, 8), 998);
        x.ticks(1);
        Check.due("count by 2 and 999", x.device(0, 5), 1497);
    }

    /** A window of one tick: five pages in tick 3, none in others. */
    private static WriterPace five() {
        return Texts.told(head("limit 999 background 0 age 99", "pause 9 window 1 chunk 99 queue 99")
                + "device speed 0;file on 0;writer to 0 wants 99;speed : if time = 3 then 500 else 0 end;");
    }

    static void term_b_count_by_2_is_rounded_down() {
        WriterPace x = five();
        x.ticks(3);
        for (int due : new int[] {5, 2, 1, 0, 0}) {
            Check.due("count", x.device(0, 5), due);
            x.ticks(1);
        }
    }

    static void term_b_the_estimate_moves_by_an_eighth() {
        WriterPace x = five();
        x.ticks(2);
        Check.due("none in flight when the window ended", x.device(0, 4), 0);
        x.ticks(1);
        Check.due("500 by 8", x.device(0, 4), 62500);
        x.ticks(1);
        // 62.5 less an eighth is 54.6875: cut, not rounded.
        Check.due("none written, some in flight", x.device(0, 4), 54687);
    }

    static void term_b_the_estimate_moves_if_some_were_written_and_none_is_in_flight() {
        WriterPace x = Texts.told(head("limit 999 background 0 age 99", "pause 9 window 1 chunk 99 queue 99")
                + "device speed 80;file on 0;writer to 0 wants 2;wants : if time = 1 then told else 0 end;"
                + "speed : 200;");
        x.ticks(2);
        Check.due("as told", x.device(0, 4), 80000);
        x.ticks(1);
        Check.due("none in flight", x.device(0, 1), 0);
        Check.due("80 and 120 by 8", x.device(0, 4), 95000);
        Check.due("count", x.device(0, 5), 2);
        x.ticks(1);
        Check.due("none written, none in flight: it stays", x.device(0, 4), 95000);
        Check.due("but the count is halved", x.device(0, 5), 1);
    }

    static void term_b_one_page_written_or_one_in_flight_is_enough() {
        String head = head("limit 999 background 0 age 99", "pause 9 window 1 chunk 99 queue 99")
                + "device speed 80;file on 0;writer to 0 wants 1;wants : if time = 1 then told else 0 end;";
        WriterPace x = Texts.told(head + "speed : 160;");
        x.ticks(3);
        Check.due("none in flight", x.device(0, 1), 0);
        // One page is 100 in a hundred: 80 and 20 by 8.
        Check.due("one written", x.device(0, 4), 82500);
        WriterPace y = Texts.told(head + "speed : 0;");
        y.ticks(3);
        Check.due("one in flight", y.device(0, 1), 1);
        Check.due("none written: 80 less an eighth", y.device(0, 4), 70000);
    }

    static void term_b_the_window_divides_what_was_written_in_it() {
        WriterPace x = Texts.told(head("limit 999 background 0 age 99", "pause 9 window 4 chunk 99 queue 99")
                + "device speed 50;file on 0;writer to 0 wants 99;speed : 300;");
        x.ticks(3);
        Check.due("within the window", x.device(0, 4), 50000);
        x.ticks(1);
        // Six pages in four ticks are 150 in a hundred: 50 and 100 by 8.
        Check.due("estimate", x.device(0, 4), 62500);
        x.ticks(4);
        // Twelve more are 300 in a hundred: 62.5 and 237.5 by 8 is 92.1875.
        Check.due("estimate", x.device(0, 4), 92187);
    }

    // ---- (c)

    /** Files of a device of speed 0, each with so many pages dirty since tick 1; pushed at tick 2. */
    private static WriterPace pushed(int chunk, int queue, int... dirty) {
        StringBuilder text = new StringBuilder(head("limit 999 background 0 age 99", "pause 9 window 99 chunk "
                + chunk + " queue " + queue) + "device speed 0;" + "file on 0;".repeat(dirty.length));
        for (int f = 0; f < dirty.length; f++) {
            text.append("writer to ").append(f).append(" wants ").append(dirty[f]).append(";");
        }
        WriterPace x = Texts.told(text + "wants : if time = 1 then told else 0 end;");
        x.ticks(2);
        return x;
    }

    static void term_c_no_more_than_queue_are_in_flight() {
        WriterPace x = pushed(99, 1, 99);
        Check.due("queue 1", x.device(0, 1), 1);
        Check.due("dirty", x.file(0, 1), 98);
        x.ticks(9);
        Check.due("a full queue takes none", x.device(0, 1), 1);
        WriterPace y = pushed(99, 99, 99, 5);
        Check.due("queue 99", y.device(0, 1), 99);
        Check.due("dirty", y.file(0, 1), 0);
        Check.due("dirty", y.file(1, 1), 5);
        WriterPace z = pushed(99, 98, 99);
        Check.due("queue 98", z.device(0, 1), 98);
    }

    static void term_c_no_more_than_chunk_are_taken_at_once() {
        WriterPace x = pushed(2, 9, 5, 5);
        // 2, 2, 2, 2 by turns, then the last one of file 0.
        Check.due("file 0", x.file(0, 1), 0);
        Check.due("file 1", x.file(1, 1), 1);
        WriterPace y = pushed(1, 9, 5, 5);
        Check.due("file 0", y.file(0, 1), 0);
        Check.due("file 1", y.file(1, 1), 1);
        WriterPace z = pushed(4, 9, 5, 5);
        // 4 of file 0, 4 of file 1, the last one of file 0.
        Check.due("file 0", z.file(0, 1), 0);
        Check.due("file 1", z.file(1, 1), 1);
        WriterPace u = pushed(5, 9, 6, 6);
        // 5 of file 0, 4 of file 1.
        Check.due("file 0", u.file(0, 1), 1);
        Check.due("file 1", u.file(1, 1), 2);
        WriterPace v = pushed(99, 9, 6, 6);
        Check.due("file 0", v.file(0, 1), 0);
        Check.due("file 1", v.file(1, 1), 3);
    }

    static void term_c_no_more_than_there_is_room_for_are_taken() {
        WriterPace x = pushed(3, 4, 9, 9);
        Check.due("3 of file 0", x.file(0, 1), 6);
        Check.due("1 of file 1", x.file(1, 1), 8);
        Check.due("in flight", x.device(0, 1), 4);
    }

    static void term_c_no_more_than_are_dirty_are_taken() {
        WriterPace x = pushed(99, 99, 7, 0, 8);
        Check.due("in flight", x.device(0, 1), 15);
        Check.due("dirty", x.count(5), 0);
        Check.due("all", x.count(4), 15);
    }

    /** A page of file 0 is made dirty in each tick; nothing is pushed by turns. */
    private static WriterPace aging(int age) {
        return Texts.told(head("limit 999 background 998 age " + age, "pause 9 window 99 chunk 1 queue 1")
                + "device speed 0;file on 0;writer to 0 wants 1;wants : if time < 3 then told else 0 end;");
    }

    static void term_c_a_file_is_old_from_its_age_on() {
        WriterPace x = aging(5);
        x.ticks(5);
        Check.due("how old", x.file(0, 2), 4);
        Check.due("not old", x.file(0, 3), 0);
        Check.due("none taken", x.device(0, 1), 0);
        Check.due("next", x.next(0), -1);
        x.ticks(1);
        Check.due("how old", x.file(0, 2), 5);
        Check.due("old", x.file(0, 3), 1);
        Check.due("one taken", x.device(0, 1), 1);
        Check.due("next", x.next(0), 0);
    }

    static void term_c_an_age_of_1_and_one_of_999() {
        WriterPace x = aging(1);
        x.ticks(1);
        Check.due("none taken", x.device(0, 1), 0);
        Check.due("not old in its own tick", x.file(0, 3), 0);
        x.ticks(1);
        Check.due("one taken", x.device(0, 1), 1);
        WriterPace y = aging(999);
        y.ticks(999);
        Check.due("how old", y.file(0, 2), 998);
        Check.due("none taken", y.device(0, 1), 0);
        y.ticks(1);
        Check.due("one taken", y.device(0, 1), 1);
        Check.due("how old", y.file(0, 2), 999);
    }

    static void term_c_the_old_one_with_the_least_since_the_first() {
        // Files 0 to 3 are dirty since ticks 3, 2, 2 and 4.
        WriterPace x = Texts.told(head("limit 999 background 998 age 4", "pause 9 window 99 chunk 9 queue 1")
                + "device speed 0;file on 0;file on 0;file on 0;file on 0;"
                + "writer to 0 wants 3;writer to 1 wants 2;writer to 2 wants 2;writer to 3 wants 4;"
                + "wants : if time = told then 2 else 0 end;");
        x.ticks(5);
        Check.due("none is old", x.next(0), -1);
        x.ticks(1);
        Check.due("file 1 is taken", x.file(1, 1), 1);
        Check.due("file 1 is next", x.next(0), 1);
        x.speed(0, 100);
        x.ticks(1);
        Check.due("file 1 is taken", x.file(1, 1), 0);
        Check.due("file 2 is next", x.next(0), 2);
        x.ticks(2);
        Check.due("file 2 is taken", x.file(2, 1), 0);
        Check.due("file 0 is next", x.next(0), 0);
        x.ticks(2);
        Check.due("file 3 is next", x.next(0), 3);
    }

    static void term_c_old_ones_are_taken_ahead_of_turns_and_leave_the_turns_alone() {
        // File 1 is dirty since tick 1, the others since tick 3; all is above background.
        WriterPace x = Texts.told(head("limit 999 background 0 age 4", "pause 9 window 99 chunk 1 queue 1")
                + "device speed 0;file on 0;file on 0;file on 0;"
                + "writer to 0 wants 4;writer to 1 wants 1;writer to 2 wants 4;"
                + "wants : if time = told then 3 else 0 end;");
        x.ticks(2);
        Check.due("file 1 by turns", x.file(1, 1), 2);
        x.ticks(2);
        Check.due("behind it by turns", x.next(0), 2);
        x.ticks(1);
        Check.due("file 1 is old", x.next(0), 1);
        x.speed(0, 100);
        x.ticks(2);
        Check.due("file 1 is taken in whole", x.file(1, 1), 0);
        Check.due("the turn is where it was", x.next(0), 2);
    }

    static void term_c_the_first_turn_is_the_first_ones_even_behind_an_old_one() {
        // File 1 is old at tick 3; files 0 and 2 are dirty since tick 3.
        WriterPace x = Texts.told(head("limit 999 background 3 age 2", "pause 9 window 99 chunk 1 queue 1")
                + "device speed 100;file on 0;file on 0;file on 0;"
                + "writer to 0 wants 3;writer to 1 wants 1;writer to 2 wants 3;"
                + "wants : if time = told then if told = 1 then 1 else 5 end else 0 end;");
        x.ticks(3);
        Check.due("file 1 is taken", x.file(1, 1), 0);
        Check.due("by age", x.device(0, 1), 1);
        Check.due("from its first one", x.next(0), 0);
    }

    static void term_c_turns_want_all_above_background() {
        for (int wants = 5; wants <= 6; wants++) {
            WriterPace x = Texts.told(head("limit 99 background 5 age 99", "pause 9 window 99 chunk 1 queue 9")
                    + "device speed 0;file on 0;writer to 0 wants " + wants
                    + ";wants : if time = 1 then told else 0 end;");
            x.ticks(1);
            Check.due("next with " + wants, x.next(0), wants == 5 ? -1 : 0);
            x.ticks(1);
            // What is in flight is a part of all: once above, all of them go.
            Check.due("taken of " + wants, x.device(0, 1), wants == 5 ? 0 : 6);
        }
    }

    static void term_c_background_may_be_0_or_one_below_the_limit() {
        for (int wants = 0; wants <= 1; wants++) {
            WriterPace x = Texts.told(head("limit 1 background 0 age 99", "pause 9 window 99 chunk 1 queue 9")
                    + "device speed 0;file on 0;writer to 0 wants " + wants + ";");
            x.ticks(2);
            Check.due("in flight of " + wants, x.device(0, 1), wants);
        }
        for (int wants = 8; wants <= 9; wants++) {
            WriterPace x = Texts.told(head("limit 9 background 8 age 99", "pause 9 window 99 chunk 1 queue 9")
                    + "device speed 0;file on 0;writer to 0 wants " + wants
                    + ";wants : if time = 1 then told else 0 end;");
            x.ticks(2);
            Check.due("in flight of " + wants, x.device(0, 1), wants == 9 ? 9 : 0);
        }
    }

    static void term_c_turns_go_round_the_ring_of_its_own_files() {
        WriterPace x = Texts.told(head("limit 999 background 0 age 999", "pause 9 window 99 chunk 1 queue 1")
                + "device speed 100;device speed 100;file on 1;file on 0;file on 1;file on 0;file on 0;file on 1;"
                + "writer to 1 wants 9;writer to 3 wants 9;writer to 4 wants 2;writer to 2 wants 9;"
                + "wants : if time = 1 then told else 0 end;");
        int[] first = {1, 3, 4, 1, 3, 4, 1, 3, 1, 3};
        for (int i = 0; i < first.length; i++) {
            x.ticks(1);
            // File 4 has two pages: from then on the ring goes past it.
            Check.due("next of device 0 at tick " + (i + 1), x.next(0), first[i]);
            Check.due("next of device 1 at tick " + (i + 1), x.next(1), i < 9 ? 2 : -1);
        }
    }

    // ---- (d)

    static void term_d_the_round_begins_with_the_rest_of_the_tick() {
        for (int writers = 1; writers <= 6; writers++) {
            for (int tick = 1; tick <= 13; tick++) {
                WriterPace x = Texts.told(head("limit 5 background 4 age 999", "pause 9 window 99 chunk 1 queue 1")
                        + "device speed 0;file on 0;" + "writer to 0 wants 3;".repeat(writers)
                        + "wants : if time = " + tick + " then told else 0 end;");
                x.ticks(tick);
                // Three of five pages for the first one, two for the second one, none for others.
                for (int w = 0; w < writers; w++) {
                    int behind = (w - tick % writers + writers) % writers;
                    Check.due("writer " + w + " of " + writers + " in tick " + tick, x.writer(w, 4),
                            behind == 0 ? 3 : behind == 1 ? 2 : 0);
                    Check.due("held", x.writer(w, 5), behind == 0 ? 0 : 1);
                }
            }
        }
    }

    static void term_d_a_pause_is_1_less_and_no_more_in_a_tick() {
        WriterPace x = Texts.told(head("limit 10 background 0 age 99", "pause 8 window 99 chunk 1 queue 1")
                + "device speed 0;file on 0;writer to 0 wants 6;wants : if time < 6 then told else 1 end;");
        x.ticks(1);
        // A rate of 1: the longest pause, a quarter of it.
        Check.due("pause", x.writer(0, 2), 2);
        x.ticks(1);
        Check.due("pause", x.writer(0, 2), 1);
        x.ticks(1);
        Check.due("pause", x.writer(0, 2), 0);
        Check.due("it has not written in that tick", x.writer(0, 4), 6);
        Check.due("nor was it held", x.writer(0, 5), 0);
        x.ticks(1);
        Check.due("it has written", x.writer(0, 4), 10);
    }

    private static int wantedBy(String law) {
        WriterPace x = Texts.told(head("limit 999 background 0 age 99", "pause 9 window 99 chunk 1 queue 1")
                + "device speed 0;file on 0;writer to 0 wants 99;" + law);
        x.ticks(1);
        return x.writer(0, 4);
    }

    static void term_d_the_law_tells_0_at_least() {
        Check.due("-1", wantedBy("wants : 0 - 1;"), 0);
        Check.due("0", wantedBy("wants : 0;"), 0);
        Check.due("1", wantedBy("wants : 1;"), 1);
        Check.due("-1000000", wantedBy("wants : 0 - 999 * 999 * 999;"), 0);
    }

    static void term_d_the_law_tells_99_at_most() {
        Check.due("98", wantedBy("wants : 98;"), 98);
        Check.due("99", wantedBy("wants : 99;"), 99);
        Check.due("100", wantedBy("wants : 100;"), 99);
        Check.due("1000000", wantedBy("wants : 999 * 999 * 999;"), 99);
    }

    static void term_d_without_a_law_it_wants_as_told() {
        Check.due("99", wantedBy(""), 99);
        Check.due("with a law of speed", wantedBy("speed : 5;"), 99);
    }

    private static void limited(int wants, int writes, int held) {
        WriterPace x = Texts.told(head("limit 9 background 8 age 99", "pause 9 window 99 chunk 1 queue 1")
                + "device speed 0;file on 0;writer to 0 wants " + wants + ";");
        x.ticks(1);
        Check.due("written of " + wants, x.writer(0, 4), writes);
        Check.due("held with " + wants, x.writer(0, 5), held);
        Check.due("all with " + wants, x.count(4), writes);
    }

    static void term_d_it_writes_as_many_as_the_limit_is_above_all() {
        limited(8, 8, 0);
        limited(9, 9, 0);
        limited(10, 9, 1);
        limited(99, 9, 1);
        limited(0, 0, 0);
    }

    static void term_d_at_the_limit_it_writes_none_and_is_held_if_it_wants_some() {
        WriterPace x = Texts.told(head("limit 9 background 8 age 99", "pause 1 window 99 chunk 1 queue 1")
                + "device speed 0;file on 0;writer to 0 wants 9;");
        x.ticks(1);
        Check.due("all", x.count(4), 9);
        x.wants(0, 0);
        x.ticks(5);
        Check.due("who wants none is not held", x.writer(0, 5), 0);
        x.wants(0, 1);
        x.ticks(5);
        Check.due("who wants one is", x.writer(0, 5), 5);
        Check.due("it writes none", x.writer(0, 4), 9);
    }

    static void term_d_since_is_this_tick_if_there_were_none() {
        WriterPace x = Texts.told(head("limit 99 background 98 age 99", "pause 1 window 99 chunk 9 queue 9")
                + "device speed 0;file on 0;writer to 0 wants 1;");
        x.ticks(1);
        Check.due("this tick", x.file(0, 2), 0);
        x.ticks(3);
        Check.due("there were some", x.file(0, 2), 3);
        // Old at tick 3, taken in whole, dirty anew in the same tick.
        WriterPace y = Texts.told(head("limit 99 background 98 age 2", "pause 1 window 99 chunk 9 queue 9")
                + "device speed 0;file on 0;writer to 0 wants 1;");
        y.ticks(2);
        Check.due("there were some", y.file(0, 2), 1);
        y.ticks(1);
        Check.due("in flight", y.device(0, 1), 2);
        Check.due("there were none", y.file(0, 2), 0);
    }

    /** Limit 10, background 0: FREE is 5, the set point 7.5. */
    private static WriterPace six(int speed, int wants, int longest) {
        WriterPace x = Texts.told(head("limit 10 background 0 age 99", "pause " + longest
                + " window 99 chunk 1 queue 1") + "device speed " + speed + ";file on 0;writer to 0 wants "
                + wants + ";");
        x.ticks(1);
        return x;
    }

    static void term_d_a_pause_wants_all_above_free() {
        WriterPace x = six(10, 5, 999);
        Check.due("at FREE: last", x.writer(0, 3), 0);
        Check.due("at FREE: pause", x.pause(0, 5), 0);
        // g 0.6, p 1.216, q 0.8, rate 9.728: 600 by it is 61.67, a quarter of 61 is 15.
        WriterPace y = six(10, 6, 999);
        Check.due("above FREE: pause", y.pause(0, 6), 61);
        Check.due("above FREE: last", y.writer(0, 3), 15);
        Check.due("above FREE: what is left", y.writer(0, 2), 15);
    }

    static void term_d_free_is_rounded_down() {
        // 0 and 9 by 2 is 4.
        for (int wants = 4; wants <= 5; wants++) {
            WriterPace x = Texts.told(head("limit 9 background 0 age 99", "pause 99 window 99 chunk 1 queue 1")
                    + "device speed 0;file on 0;writer to 0 wants " + wants + ";");
            x.ticks(1);
            Check.due("set(7)", x.set(7), 4);
            Check.due("last with " + wants, x.writer(0, 3), wants == 4 ? 0 : 24);
        }
    }

    static void term_d_the_pause_is_the_longest_at_most() {
        Check.due("longest 62", six(10, 6, 62).pause(0, 6), 61);
        Check.due("longest 61", six(10, 6, 61).pause(0, 6), 61);
        Check.due("longest 60", six(10, 6, 60).pause(0, 6), 60);
        Check.due("longest 1", six(10, 6, 1).pause(0, 6), 1);
        Check.due("longest 999", six(0, 6, 999).pause(0, 99), 999);
        Check.due("last of 60", six(10, 6, 60).writer(0, 3), 15);
        Check.due("last of 59", six(10, 6, 59).writer(0, 3), 14);
    }

    static void term_d_the_pause_is_cut_to_a_whole_number() {
        // A rate of 9.728: 100 by it is 10.28, 700 by it is 71.96.
        Check.due("10.28", six(10, 6, 999).pause(0, 1), 10);
        Check.due("71.96", six(10, 6, 999).pause(0, 7), 71);
        // 999 by 0.9728 is 971.8: 0.1028 is no tick.
        Check.due("0.1028", six(999, 6, 999).pause(0, 1), 0);
        Check.due("0.926", six(999, 6, 999).pause(0, 9), 0);
        Check.due("1.029", six(999, 6, 999).pause(0, 10), 1);
    }

    static void term_d_the_rate_is_1_at_least() {
        // 1 by 0.9728 is below 1: 600 by 1.
        Check.due("below 1", six(1, 6, 999).pause(0, 6), 600);
        Check.due("0", six(0, 6, 999).pause(0, 6), 600);
        // 2 by 0.9728 is 1.9456: 308.4.
        Check.due("above 1", six(2, 6, 999).pause(0, 6), 308);
    }

    static void term_d_p_is_0_at_the_limit() {
        WriterPace x = six(999, 10, 999);
        Check.due("all is the limit", x.count(4), 10);
        Check.due("a rate of 1", x.pause(0, 1), 100);
        // One below: g -0.6, p 0.784, q 0.2: 156.6432.
        WriterPace y = six(999, 9, 999);
        Check.due("900 by 156.6", y.pause(0, 9), 5);
    }

    static void term_d_q_is_0_at_least() {
        // Two devices, a share of 5 each: with 5 on it q is 0, with 6 it would be below.
        for (int wants = 4; wants <= 6; wants++) {
            WriterPace x = Texts.told(head("limit 10 background 0 age 99", "pause 999 window 99 chunk 1 queue 1")
                    + "device speed 999;device speed 0;file on 0;file on 1;writer to 0 wants " + wants
                    + ";writer to 1 wants 2;");
            x.ticks(1);
            // Tick 1 begins with writer 1. With 4: g 0.6, p 1.216, q 0.4, rate 485.9.
            Check.due("with " + wants, x.pause(0, 9), wants == 4 ? 1 : 900);
        }
    }

    static void term_d_q_is_2_with_nothing_on_the_device() {
        WriterPace x = Texts.told(head("limit 10 background 0 age 99", "pause 999 window 99 chunk 1 queue 1")
                + "device speed 10;device speed 0;file on 0;file on 1;writer to 0 wants 0;writer to 1 wants 6;");
        x.ticks(1);
        // p 1.216, q 2: 24.32; 600 by it is 24.67.
        Check.due("q 2", x.pause(0, 6), 24);
    }

    static void term_d_what_is_in_flight_is_on_the_device_too() {
        // Limit 10: 6 pages on it, of which at tick 2 four are in flight and two are dirty.
        WriterPace x = Texts.told(head("limit 10 background 0 age 99", "pause 999 window 99 chunk 9 queue 4")
                + "device speed 10;file on 0;writer to 0 wants 6;");
        x.ticks(1);
        Check.due("all are dirty", x.pause(0, 6), 61);
        x.ticks(1);
        Check.due("in flight", x.device(0, 1), 4);
        Check.due("dirty", x.device(0, 2), 2);
        Check.due("as many are on it", x.pause(0, 6), 61);
        WriterPace y = Texts.told(head("limit 10 background 0 age 99", "pause 999 window 99 chunk 9 queue 9")
                + "device speed 10;file on 0;writer to 0 wants 6;");
        y.ticks(2);
        Check.due("all are in flight", y.pause(0, 6), 61);
    }

    static void term_d_the_estimate_is_divided_by_how_many_writers_are_there() {
        String head = head("limit 10 background 0 age 99", "pause 999 window 99 chunk 1 queue 1")
                + "device speed 60;file on 0;file on 0;writer to 0 wants 6;";
        int[] due = {0, 10, 20, 30, 41, 51, 61};
        for (int many = 1; many <= 6; many++) {
            WriterPace x = Texts.told(head + "writer to 1 wants 0;".repeat(many - 1));
            x.ticks(1);
            // 60 by many times 0.9728: 600 by it.
            Check.due("many " + many, x.pause(0, 6), due[many]);
        }
    }

    static void term_d_last_is_a_quarter_new_rounded_down() {
        WriterPace x = Texts.told(head("limit 99 background 0 age 999", "pause 7 window 99 chunk 1 queue 1")
                + "device speed 0;file on 0;writer to 0 wants 50;wants : if time = 1 then 50 else 1 end;");
        // A pause of 7 each time: 7 by 4 is 1, 10 by 4 is 2, 13 by 4 is 3, 16 by 4 is 4, and so on.
        int tick = 1;
        int[] due = {1, 2, 3, 4, 4, 4};
        for (int i = 0; i < due.length; i++) {
            x.ticks(tick);
            Check.due("last", x.writer(0, 3), due[i]);
            Check.due("pause", x.writer(0, 2), due[i]);
            tick = due[i] + 1;
        }
        Check.due("written", x.writer(0, 4), 55);
    }

    static void term_d_else_last_is_as_it_was() {
        // Tick 1: last 5, as in heldBack. All is written by tick 6, then it writes up to FREE.
        WriterPace x = six(100, 8, 50);
        Check.due("last", x.writer(0, 3), 5);
        x.wants(0, 0);
        x.ticks(40);
        Check.due("who writes none", x.writer(0, 3), 5);
        Check.due("has no pause", x.writer(0, 2), 0);
        Check.due("all is written", x.count(4), 0);
        x.wants(0, 5);
        x.ticks(1);
        Check.due("at FREE", x.count(4), 5);
        Check.due("last", x.writer(0, 3), 5);
        Check.due("has no pause", x.writer(0, 2), 0);
    }

    static void term_d_who_is_held_without_a_page_has_no_pause() {
        WriterPace x = Texts.told(head("limit 5 background 0 age 99", "pause 40 window 99 chunk 1 queue 1")
                + "device speed 0;file on 0;writer to 0 wants 0;writer to 0 wants 9;");
        x.ticks(1);
        Check.due("who wrote", x.writer(1, 3), 10);
        x.wants(0, 9);
        x.ticks(1);
        Check.due("held", x.writer(0, 5), 1);
        Check.due("x is 0: last", x.writer(0, 3), 0);
        Check.due("x is 0: pause", x.writer(0, 2), 0);
    }

    // ---- the share

    static void term_share_without_counts_is_an_equal_part_rounded_down() {
        int[] due = {0, 11, 5, 3, 2};
        for (int devices = 1; devices <= 4; devices++) {
            WriterPace x = Texts.told(head("limit 11 background 0 age 99", "pause 40 window 99 chunk 1 queue 1")
                    + "device speed 0;".repeat(devices));
            Check.due("of " + devices, x.device(devices - 1, 6), due[devices]);
        }
    }

    static void term_share_is_1_at_least() {
        WriterPace x = Texts.told(head("limit 3 background 0 age 99", "pause 40 window 1 chunk 1 queue 1")
                + "device speed 0;".repeat(4));
        Check.due("3 by 4", x.device(0, 6), 1);
        WriterPace y = Texts.told(head("limit 4 background 0 age 99", "pause 40 window 1 chunk 1 queue 1")
                + "device speed 0;".repeat(4));
        Check.due("4 by 4", y.device(0, 6), 1);
        WriterPace z = Texts.told(head("limit 9 background 0 age 99", "pause 40 window 1 chunk 1 queue 1")
                + "device speed 100;device speed 100;file on 0;writer to 0 wants 1;");
        z.ticks(3);
        Check.due("who wrote", z.device(0, 6), 9);
        Check.due("who did not", z.device(1, 6), 1);
    }

    static void term_share_is_rounded_down() {
        WriterPace x = Texts.told(head("limit 10 background 0 age 99", "pause 1 window 3 chunk 9 queue 9")
                + "device speed 200;device speed 100;file on 0;file on 1;writer to 0 wants 2;writer to 1 wants 1;");
        x.ticks(3);
        Check.due("count", x.device(0, 5), 2);
        Check.due("count", x.device(1, 5), 1);
        Check.due("20 by 3", x.device(0, 6), 6);
        Check.due("10 by 3", x.device(1, 6), 3);
    }

    // ---- the laws

    static void term_time_is_the_rest_of_the_tick_by_100() {
        WriterPace x = Texts.told(head("limit 999 background 0 age 999", "pause 1 window 99 chunk 99 queue 99")
                + "device speed 999;file on 0;writer to 0 wants 0;wants : if time > 98 or time < 2 then time + 1 "
                + "else 0 end;");
        x.ticks(98);
        int before = x.writer(0, 4);
        int[] due = {99, 1, 2, 0};
        for (int i = 0; i < due.length; i++) {
            x.ticks(1);
            Check.due("tick " + (99 + i), x.writer(0, 4) - before, due[i]);
            before = x.writer(0, 4);
        }
    }

    /** What a sum tells, seen by a law of wants; it must be 0 to 99. */
    private static void tells(String sum, int due) {
        Check.due(sum, wantedBy("wants : " + sum + ";"), due);
    }

    private static final String MOST_LESS_1 = "999 * 999 + 999 + 999";

    static void term_each_plus_is_kept_to_a_million() {
        tells(MOST_LESS_1 + " - 999 * 999 - 999 - 990", 9);
        tells(MOST_LESS_1 + " + 1 - 999 * 999 - 999 - 990", 10);
        tells(MOST_LESS_1 + " + 2 - 999 * 999 - 999 - 990", 10);
        tells(MOST_LESS_1 + " + 999 - 999 * 999 - 999 - 990", 10);
        // Both are -999999 and a sum of them is kept, too.
        tells("(0 - 999 * 999 - 999 - 999) + (0 - 999 * 999 - 999 - 999) + 999 * 999 + 999 + 999 + 9", 8);
    }

    static void term_each_minus_is_kept_to_minus_a_million() {
        tells("0 - 999 * 999 - 999 - 999 + 999 * 999 + 999 + 999 + 9", 9);
        tells("0 - 999 * 999 - 999 - 999 - 1 + 999 * 999 + 999 + 999 + 9", 8);
        tells("0 - 999 * 999 - 999 - 999 - 2 + 999 * 999 + 999 + 999 + 9", 8);
        tells("(" + MOST_LESS_1 + ") - (0 - 5) - 999 * 999 - 999 - 990", 10);
    }

    static void term_each_times_is_kept_to_a_million() {
        tells("(999 + 1) * (999 + 1) - 999 * 999 - 999 - 990", 10);
        tells("(999 + 1) * (999 + 2) - 999 * 999 - 999 - 990", 10);
        tells("(0 - 999 - 1) * (999 + 2) + 999 * 999 + 999 + 999 + 9", 8);
        // A million times a million is beyond an int.
        tells("(999 * 999 * 2) * (999 * 999 * 2) - 999 * 999 - 999 - 990", 10);
        tells("(0 - 999 * 999 * 2) * (999 * 999 * 2) + 999 * 999 + 999 + 999 + 9", 8);
        tells("(0 - 999 * 999 * 2) * (0 - 999 * 999 * 2) - 999 * 999 - 999 - 990", 10);
    }

    static void term_if_tells_the_one_sum_or_the_other() {
        tells("if 2 = 2 then 5 else 6 end", 5);
        tells("if 2 = 3 then 5 else 6 end", 6);
        tells("if 2 < 2 then 5 else 6 end", 6);
        tells("if 2 < 3 then 5 else 6 end", 5);
        tells("if 2 > 2 then 5 else 6 end", 6);
        tells("if 3 > 2 then 5 else 6 end", 5);
        tells("if 0 - 3 < 0 - 2 then 5 else 6 end", 5);
    }

    static void term_or_and_not_bind_as_the_text_tells() {
        tells("if not 1 = 1 then 1 else 0 end", 0);
        tells("if not 1 = 2 then 1 else 0 end", 1);
        tells("if not not 1 = 1 then 1 else 0 end", 1);
        tells("if not not 1 = 2 then 1 else 0 end", 0);
        tells("if not 1 = 1 or 1 = 2 then 1 else 0 end", 0);
        tells("if 1 = 2 or not 1 = 1 then 1 else 0 end", 0);
        tells("if 1 = 2 or not 1 = 2 then 1 else 0 end", 1);
        for (int bits = 0; bits < 8; bits++) {
            boolean a = (bits & 4) != 0;
            boolean b = (bits & 2) != 0;
            boolean c = (bits & 1) != 0;
            String p = a ? "1 = 1" : "1 = 2";
            String q = b ? "1 = 1" : "1 = 2";
            String r = c ? "1 = 1" : "1 = 2";
            tells("if " + p + " or " + q + " and " + r + " then 1 else 0 end", a || b && c ? 1 : 0);
            tells("if " + p + " and " + q + " or " + r + " then 1 else 0 end", a && b || c ? 1 : 0);
            tells("if not " + p + " and " + q + " or " + r + " then 1 else 0 end", !a && b || c ? 1 : 0);
            tells("if not [ " + p + " or " + q + " ] and " + r + " then 1 else 0 end", !(a || b) && c ? 1 : 0);
            tells("if [ " + p + " or " + q + " ] and not " + r + " then 1 else 0 end", (a || b) && !c ? 1 : 0);
        }
    }

    static void term_what_stands_open_around_a_part_does_not_matter() {
        tells("1 + 2 * if 1 = 1 and not 1 = 2 then 3 else 4 end", 7);
        tells("1 + 2 * if 1 = 1 and not 1 = 1 then 3 else 4 end", 9);
        tells("1 + 2 * ( 3 + if 1 = 2 or 1 < 2 and not [ 2 < 1 or 2 = 1 ] then 5 * 2 else 1 end )", 27);
        tells("9 - if 1 + 1 * 2 = 3 then 1 + 1 * 2 else 7 end - 1", 5);
        tells("if if 1 = 1 then 2 else 3 end = 2 then if 1 = 2 then 4 else 5 end else 6 end", 5);
        // Six levels, each with a sum, a product, a comparison, an and and an or open around it.
        String open = "1 + 1 * if 1 = 2 or 1 = 1 and 1 < 1 + 1 * ";
        String deep = open.repeat(6) + "1" + " then 2 else 3 end".repeat(6);
        // The innermost one: 1 is not above 1 + 1 * 1 = 2, so that each tells 2, and each sum 3.
        tells(deep, 3);
    }

    static void term_laws_of_four_devices_and_six_writers_are_each_their_own() {
        StringBuilder text = new StringBuilder(head("limit 999 background 0 age 99",
                "pause 9 window 999 chunk 99 queue 99"));
        for (int d = 0; d < 4; d++) {
            text.append("device speed 5;file on ").append(d).append(";");
        }
        for (int w = 0; w < 6; w++) {
            text.append("writer to ").append(w % 4).append(" wants 5;");
        }
        WriterPace x = Texts.told(text + "wants : told + writer * 5 + device;speed : told * 10 + device;");
        x.ticks(2);
        for (int w = 0; w < 6; w++) {
            Check.due("writer " + w, x.writer(w, 4), 2 * (5 + w * 5 + w % 4));
        }
        x.ticks(1);
        for (int d = 0; d < 4; d++) {
            Check.due("credit of " + d, x.device(d, 3), 50 + d);
        }
        for (int d = 3; d >= 0; d--) {
            x.speed(d, 1);
        }
        for (int w = 5; w >= 0; w--) {
            x.wants(w, 0);
        }
        x.ticks(1);
        for (int d = 0; d < 4; d++) {
            Check.due("credit of " + d, x.device(d, 3), 50 + d + 10 + d);
        }
        for (int w = 0; w < 6; w++) {
            Check.due("writer " + w, x.writer(w, 4), 3 * (5 + w * 5 + w % 4) + w * 5 + w % 4);
        }
    }

    static void term_told_is_the_number_as_told_now() {
        WriterPace x = Texts.told(head("limit 999 background 0 age 999", "pause 1 window 99 chunk 99 queue 99")
                + "device speed 7;device speed 40;file on 1;writer to 0 wants 3;writer to 0 wants 4;"
                + "wants : told + device * 10 + writer * 20;speed : told * 10 + device;");
        x.ticks(1);
        Check.due("writer 0", x.writer(0, 4), 13);
        Check.due("writer 1", x.writer(1, 4), 34);
        x.wants(1, 5);
        x.ticks(1);
        Check.due("told another number", x.writer(1, 4), 34 + 35);
        x.ticks(1);
        // 401 pages of credit: four, and 1 is left.
        Check.due("device 1", x.device(1, 7), 4);
        Check.due("credit", x.device(1, 3), 1);
        x.speed(1, 3);
        x.ticks(1);
        Check.due("told another number", x.device(1, 3), 32);
    }
}
