/** Promises 1 to 10: the least and the greatest of all that can be told and seen of a host. */
public final class HostPromisesTest {
    private static final String H = Texts.HEAD;
    private static final String FULL = "host limit 999 background 998 age 999 pause 999 window 999 chunk 99 queue 99;"
            + "device speed 0;device speed 999;device speed 1;device speed 998;"
            + "file on 0;file on 1;file on 2;file on 3;".repeat(3)
            + "writer to 0 wants 0;writer to 11 wants 99;writer to 1 wants 1;writer to 2 wants 98;"
            + "writer to 3 wants 5;writer to 4 wants 6;";

    public static void main(String[] args) throws Exception {
        Sentences.runAll(HostPromisesTest.class);
    }

    // ---- a new object

    static void promise1_there_are_no_devices_files_writers() {
        WriterPace x = new WriterPace();
        Check.due("NONE", WriterPace.NONE, -1);
        for (int what = 0; what <= 10; what++) {
            Check.due("count(" + what + ")", x.count(what), 0);
        }
        Check.due("device", x.device(0, 0), -2);
        Check.due("file", x.file(0, 0), -2);
        Check.due("writer", x.writer(0, 0), -2);
    }

    static void promise1_objects_do_not_share_anything() {
        WriterPace x = Twins.busy();
        WriterPace y = new WriterPace();
        Check.due("devices", y.count(0), 0);
        Check.due("limit", y.set(0), 100);
        Check.due("tray", y.write(0, 0, 1), -6);
        Check.due("image", y.restore(0), -5);
        Check.due("bytes", y.count(9), 0);
        Check.due("the first one", x.count(0), 2);
    }

    static void term_without_a_text() {
        WriterPace x = new WriterPace();
        int[] due = {100, 10, 30, 20, 10, 4, 8, 55};
        for (int what = 0; what < due.length; what++) {
            Check.due("set(" + what + ")", x.set(what), due[what]);
        }
        Check.due("no lines", x.count(10), 0);
    }

    /** What all calls answer if there are devices, but no files and no writers. */
    private static void idle(WriterPace x, int background) {
        Check.due("ticks", x.ticks(999), 0);
        Check.due("next", x.next(0), -1);
        Check.due("estimate stays", x.device(0, 4), 50000);
        Check.due("credit", x.device(0, 3), 0);
        Check.due("later", x.later(999, 0), 0);
        Check.due("passes", x.passes(0), -1);
        Check.due("oldest", x.oldest(999), -1);
        Check.due("drains", x.drains(), 0);
        Check.due("written", x.written(0, 1), -1);
        Check.due("starved", x.starved(0, 999), 0);
        Check.due("fair", x.fair(999, 0), -1);
        Check.due("held", x.held(999), 0);
        Check.due("enough", x.enough(99), background + 1);
        Check.due("busiest", x.busiest(0), 0);
        Check.due("chance above", x.chance(1, 3, 0), 1);
        Check.due("chance below", x.chance(1, 3, 1), 1);
        Check.due("mean above", x.mean(3, 0), 0);
        Check.due("mean below", x.mean(3, 1), 1);
        Texts.fill(x, 0, 0, 0, 0);
        Check.due("speeds", x.speeds(0, 0, 0), 1000);
        Check.due("lists", x.lists(0, 0), 2);
    }

    static void term_devices_without_files() {
        WriterPace x = Texts.told(H + "device speed 50;");
        idle(x, 1);
        Check.due("no file", x.file(0, 0), -2);
        Check.due("no writer", x.bears(0, 1), -2);
        Check.due("no writers", x.most(5, 2), -1);
        Check.due("bytes stay", x.count(9), 0);
    }

    static void term_files_without_writers() {
        WriterPace x = Texts.told(H + "device speed 50;file on 0;");
        idle(x, 1);
        Check.due("no dirty pages", x.file(0, 1), 0);
        Check.due("no age", x.file(0, 2), -1);
        Check.due("no writers", x.most(5, 0), -1);
    }

    static void term_writers_who_want_nothing() {
        WriterPace x = Texts.told(H + "device speed 50;file on 0;writer to 0 wants 0;");
        idle(x, 1);
        Check.due("who writes most", x.most(5, 0), 0);
        Check.due("how many", x.most(5, 1), 0);
        Check.due("the fewest", x.most(5, 2), 0);
        Check.due("held", x.writer(0, 5), 0);
    }

    static void term_a_host_of_its_first_line_alone() {
        WriterPace x = Texts.told(H);
        Check.due("limit", x.set(0), 9);
        Check.due("devices", x.count(0), 0);
        Check.due("lines", x.count(10), 1);
        Check.due("ticks", x.ticks(999), 0);
        Check.due("no writers", x.most(5, 0), -1);
        Check.due("enough", x.enough(99), 2);
        Check.due("chance", x.chance(1, 3, 0), 1);
        Check.due("drains", x.drains(), 0);
        Check.due("next", x.next(0), -2);
    }

    // ---- feed

    static void promise2_the_tape_has_20_bytes_more_to_900() {
        WriterPace x = new WriterPace();
        for (int round = 0; round < 2; round++) {
            for (int i = 1; i <= 45; i++) {
                Check.due("feed", x.feed(0x20202020, 0x20202020, 0x20202020, 0x20202020, 0x20202020), 20 * i);
                Check.due("count(9)", x.count(9), 20 * i);
            }
            Check.due("feed beyond 900", x.feed(1, 2, 3, 4, 5), -5);
            Check.due("count(9)", x.count(9), 900);
            // Were a byte of the refused call on the tape, it would be a fault of kind 1.
            Check.due("host(900)", x.host(900), -32);
            Check.due("all blanks", x.fault(1), 900);
            Check.due("the tape is empty then", x.count(9), 0);
        }
    }

    static void promise2_the_highest_byte_of_each_int_comes_first() {
        // A wrong byte at each place in turn, in the five ints.
        for (int place = 0; place < 20; place++) {
            int[] v = {0x20202020, 0x20202020, 0x20202020, 0x20202020, 0x20202020};
            v[place / 4] |= 0x80 << (24 - 8 * (place % 4));
            WriterPace x = new WriterPace();
            x.feed(0x20202020, 0x20202020, 0x20202020, 0x20202020, 0x20202020);
            x.feed(v[0], v[1], v[2], v[3], v[4]);
            Check.due("host(40)", x.host(40), -31);
            Check.due("the place", x.fault(1), 20 + place);
        }
        WriterPace y = new WriterPace();
        y.feed(-1, -1, -1, -1, -1);
        Check.due("bytes of 255", y.host(20), -31);
    }

    // ---- host

    private static WriterPace fed(String text) {
        WriterPace x = new WriterPace();
        byte[] b = Texts.bytes(text);
        for (int at = 0; at < b.length; at += 20) {
            int[] v = Texts.bytesAt(b, at);
            x.feed(v[0], v[1], v[2], v[3], v[4]);
        }
        return x;
    }

    static void promise3_n_is_0_to_what_there_is() {
        WriterPace x = fed(H + "#".repeat(15));
        Check.due("bytes", x.count(9), 80);
        Check.due("host(-1)", x.host(-1), -3);
        Check.due("host(81)", x.host(81), -3);
        Check.due("the tape stays", x.count(9), 80);
        Check.due("host(80)", x.host(80), -31);
        Check.due("at the first #", x.fault(1), 65);
        WriterPace y = fed(H + "#".repeat(15));
        Check.due("the first 65 alone", y.host(65), 1);
        Check.due("the tape is empty then", y.count(9), 0);
        Check.due("nothing is there", y.host(1), -3);
        WriterPace z = fed(H);
        Check.due("the first 0", z.host(0), -32);
        Check.due("at the end", z.fault(1), 0);
        Check.due("the tape is empty then", z.count(9), 0);
        Check.due("an empty tape", z.host(0), -32);
    }

    static void promise3_no_tick_was_and_nothing_can_be_undone() {
        WriterPace x = Twins.busy();
        x.host(0);
        Check.due("ten can be undone", x.count(8), 10);
        Check.due("told", Texts.tell(x, Twins.HOST), 11);
        Check.due("ticks", x.count(3), 0);
        Check.due("all", x.count(4), 0);
        Check.due("undone", x.count(8), 0);
        Check.due("undo(1)", x.undo(1), -3);
        Check.due("as new", Seen.all(x), Seen.all(Texts.told(Twins.HOST)));
        WriterPace y = Texts.told("host limit 5 background 4 age 99 pause 1 window 99 chunk 1 queue 1;"
                + "device speed 0;file on 0;writer to 0 wants 9;");
        y.ticks(3);
        Check.due("held", y.writer(0, 5), 3);
        Texts.tell(y, Twins.HOST);
        Check.due("as new, whoever was held", Seen.all(y), Seen.all(Texts.told(Twins.HOST)));
        x.restore(0);
        Check.due("images stay", x.count(3), 9);
        Check.due("trays stay", x.judge(1, 0), 2);
    }

    static void promise3_all_stays_with_a_fault() {
        String[] faulty = {"", "#", "host limit 5 background 5", "host", H + "device speed 1;".repeat(5),
            "host limit 8 background 7 age 7 pause 7 window 7 chunk 7 queue 7;device speed 3;file on 0;"
                + "writer to 0 wants 3;wants : 7;speed : 8;wants", Twins.HOST + "#"};
        int[] kinds = {2, 1, 3, 2, 4, 2, 1};
        for (int i = 0; i < faulty.length; i++) {
            WriterPace x = Twins.busy();
            WriterPace y = Twins.busy();
            x.host(0);
            y.host(0);
            Check.due("host of <" + faulty[i] + ">", Texts.tell(x, faulty[i]), -30 - kinds[i]);
            Check.due("the tape is empty then", x.count(9), 0);
            // The same fault as that of the other one, so that all else can be held against it.
            x.host(0);
            Check.due("all stays with <" + faulty[i] + ">", Twins.story(x), Twins.story(y));
        }
    }

    static void promise3_the_answer_is_how_many_lines_there_are() {
        Texts.sound(H, 1);
        WriterPace x = new WriterPace();
        Check.due("the greatest host", Texts.tell(x, FULL), 1 + 4 + 12 + 6);
        Check.due("count(10)", x.count(10), 23);
        Texts.sound(H + "wants:1;".repeat(104), 105);
    }

    // ---- fault

    static void promise4_the_fault_of_the_latest_host_that_was_read() {
        WriterPace x = new WriterPace();
        Check.due("at first: kind", x.fault(0), 0);
        Check.due("at first: place", x.fault(1), -1);
        Check.due("not read", x.host(1), -3);
        Check.due("not read: kind", x.fault(0), 0);
        Check.due("not read: place", x.fault(1), -1);
        String[] texts = {"#", "x", "host limit 0", H + "wants : (((((((", H};
        int[] places = {0, 0, 11, 79, -1};
        for (int i = 0; i < texts.length; i++) {
            Texts.tell(x, texts[i]);
            Check.due("kind", x.fault(0), (i + 1) % 5);
            Check.due("place", x.fault(1), places[i]);
            Check.due("not read", x.host(1), -3);
            Check.due("not read", x.host(-1), -3);
            Check.due("kind stays", x.fault(0), (i + 1) % 5);
            Check.due("place stays", x.fault(1), places[i]);
        }
    }

    static void promise4_none_for_others() {
        WriterPace x = Twins.busy();
        Check.due("kind", x.fault(0), 3);
        for (int what : new int[] {-1, 2, 3, Integer.MIN_VALUE, Integer.MAX_VALUE}) {
            Check.due("fault(" + what + ")", x.fault(what), -1);
        }
    }

    // ---- set

    private static void sets(String text, int... due) {
        WriterPace x = Texts.told(text);
        for (int what = 0; what < due.length; what++) {
            Check.due("set(" + what + ") of " + text, x.set(what), due[what]);
        }
    }

    static void promise5_the_least_and_the_greatest_of_the_host() {
        sets("host limit 1 background 0 age 1 pause 1 window 1 chunk 1 queue 1;", 1, 0, 1, 1, 1, 1, 1, 0);
        sets("host limit 999 background 998 age 999 pause 999 window 999 chunk 99 queue 99;",
                999, 998, 999, 999, 999, 99, 99, 998);
        sets("host limit 2 background 3 age 4 pause 5 window 6 chunk 7 queue 8;".replace("2 b", "12 b"),
                12, 3, 4, 5, 6, 7, 8, 7);
    }

    // ---- device

    /** Reckoned by hand: 250 in a hundred ticks, three dirty pages in each tick, five ticks. */
    private static WriterPace five() {
        WriterPace x = Texts.told("host limit 50 background 0 age 99 pause 9 window 4 chunk 99 queue 9;"
                + "device speed 250;file on 0;writer to 0 wants 3;");
        x.ticks(5);
        return x;
    }

    static void promise6_all_nine_of_a_device() {
        WriterPace x = five();
        long[] due = {250, 5, 3, 50, 234375, 5, 50, 7, 2};
        for (int what = 0; what < due.length; what++) {
            Check.due("device(0, " + what + ")", x.device(0, what), due[what]);
        }
        Check.due("device(0, -1)", x.device(0, -1), -2);
        Check.due("device(0, 9)", x.device(0, 9), -2);
    }

    static void promise6_four_devices() {
        WriterPace x = Texts.told(FULL);
        long[] speeds = {0, 999, 1, 998};
        for (int d = 0; d < 4; d++) {
            Check.due("speed", x.device(d, 0), speeds[d]);
            Check.due("estimate", x.device(d, 4), 1000 * speeds[d]);
            Check.due("share", x.device(d, 6), 249);
        }
        Check.due("device(-1, 0)", x.device(-1, 0), -2);
        Check.due("device(4, 0)", x.device(4, 0), -2);
    }

    static void promise6_the_estimate_is_cut() {
        WriterPace x = five();
        x.ticks(3);
        // In the second window 2, 3, 2 and 3 pages: 234.375 and 15.625 by 8 is 236.328125.
        Check.due("written in both windows", x.device(0, 7), 15);
        Check.due("estimate", x.device(0, 4), 236328);
    }

    // ---- file

    static void promise7_all_four_of_a_file() {
        WriterPace x = five();
        Check.due("device", x.file(0, 0), 0);
        Check.due("dirty", x.file(0, 1), 3);
        Check.due("how old", x.file(0, 2), 0);
        Check.due("old", x.file(0, 3), 0);
        Check.due("file(0, -1)", x.file(0, -1), -2);
        Check.due("file(0, 4)", x.file(0, 4), -2);
        WriterPace y = Texts.told(FULL);
        for (int f = 0; f < 12; f++) {
            Check.due("device of " + f, y.file(f, 0), f % 4);
        }
        Check.due("file(12, 0)", y.file(12, 0), -2);
        Check.due("file(-1, 0)", y.file(-1, 0), -2);
    }

    static void promise7_how_old_and_old() {
        WriterPace x = Texts.told("host limit 9 background 8 age 3 pause 1 window 9 chunk 1 queue 1;"
                + "device speed 0;file on 0;writer to 0 wants 2;wants : if time = 1 then told else 0 end;");
        Check.due("without dirty pages", x.file(0, 2), -1);
        int[] old = {0, 0, 0, 1, 1};
        for (int i = 0; i < old.length; i++) {
            x.ticks(1);
            Check.due("how old", x.file(0, 2), i);
            Check.due("old", x.file(0, 3), old[i]);
        }
        // With a queue of 2 the last page goes in flight as well, and there is no age any more.
        WriterPace y = Texts.told("host limit 9 background 8 age 3 pause 1 window 9 chunk 1 queue 2;"
                + "device speed 0;file on 0;writer to 0 wants 2;wants : if time = 1 then told else 0 end;");
        y.ticks(3);
        Check.due("how old", y.file(0, 2), 2);
        y.ticks(1);
        Check.due("without dirty pages", y.file(0, 2), -1);
        Check.due("not old", y.file(0, 3), 0);
    }

    // ---- writer

    static void promise8_all_six_of_a_writer() {
        WriterPace x = Texts.told("host limit 10 background 0 age 9 pause 50 window 5 chunk 1 queue 1;"
                + "device speed 100;file on 0;file on 0;writer to 1 wants 8;");
        x.ticks(7);
        // As in TicksTest: pause 5 from tick 1, seven pages of eight at tick 7, then a pause of 16.
        int[] due = {1, 8, 16, 16, 15, 1};
        for (int what = 0; what < due.length; what++) {
            Check.due("writer(0, " + what + ")", x.writer(0, what), due[what]);
        }
        x.ticks(1);
        Check.due("pause is left", x.writer(0, 2), 15);
        Check.due("last", x.writer(0, 3), 16);
        Check.due("writer(0, -1)", x.writer(0, -1), -2);
        Check.due("writer(0, 6)", x.writer(0, 6), -2);
        WriterPace y = Texts.told(FULL);
        int[] files = {0, 11, 1, 2, 3, 4};
        int[] wants = {0, 99, 1, 98, 5, 6};
        for (int w = 0; w < 6; w++) {
            Check.due("file of " + w, y.writer(w, 0), files[w]);
            Check.due("wants of " + w, y.writer(w, 1), wants[w]);
        }
        Check.due("writer(6, 0)", y.writer(6, 0), -2);
        Check.due("writer(-1, 0)", y.writer(-1, 0), -2);
    }

    // ---- next

    static void promise9_next_if_it_had_room() {
        WriterPace x = Texts.told("host limit 99 background 3 age 4 pause 1 window 99 chunk 1 queue 1;"
                + "device speed 0;device speed 0;file on 0;file on 0;writer to 0 wants 3;writer to 1 wants 1;"
                + "wants : if writer = 0 and time = 1 or writer = 1 and time = 2 then told else 0 end;");
        Check.due("no dirty pages", x.next(0), -1);
        x.ticks(1);
        Check.due("three are not above background", x.next(0), -1);
        x.ticks(1);
        Check.due("four are: the first one", x.next(0), 0);
        x.ticks(1);
        Check.due("it was taken", x.device(0, 1), 1);
        Check.due("behind it", x.next(0), 1);
        x.ticks(1);
        Check.due("no room, but if there were", x.next(0), 1);
        x.ticks(1);
        Check.due("old at the last tick", x.next(0), 0);
        Check.due("the other device has none", x.next(1), -1);
    }

    // ---- pause

    static void promise10_x_is_1_to_99() {
        // All is 8, on it 8: g -0.2, p 0.992, q 0.4, rate 39.68.
        WriterPace x = Texts.told("host limit 10 background 0 age 9 pause 999 window 5 chunk 1 queue 1;"
                + "device speed 100;file on 0;writer to 0 wants 8;");
        Check.due("nothing there: 0", x.pause(0, 99), 0);
        x.ticks(1);
        Check.due("pause(0, 0)", x.pause(0, 0), -3);
        Check.due("pause(0, 1)", x.pause(0, 1), 2);
        Check.due("pause(0, 99)", x.pause(0, 99), 249);
        Check.due("pause(0, 100)", x.pause(0, 100), -3);
        Check.due("last is aside", x.writer(0, 3), 5);
        Check.due("pause(0, 8)", x.pause(0, 8), 20);
    }

    static void promise10_it_is_0_if_all_is_not_above_free() {
        for (int all = 4; all <= 6; all++) {
            WriterPace x = Texts.told("host limit 10 background 0 age 9 pause 999 window 5 chunk 1 queue 1;"
                    + "device speed 0;file on 0;writer to 0 wants " + all + ";");
            x.ticks(1);
            Check.due("all " + all, x.pause(0, 1), all == 6 ? 100 : 0);
        }
    }
}
