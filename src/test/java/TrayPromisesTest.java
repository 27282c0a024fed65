/** Promises 33 to 38 at their bounds: trays of 0 to 40 numbers, cut to their sort; images; counts. */
public final class TrayPromisesTest {
    private static final String OTHER = "host limit 50 background 3 age 2 pause 5 window 4 chunk 2 queue 3;"
            + "device speed 80;file on 0;writer to 0 wants 2;wants : told * 2;speed : told * 2 + 1;";

    public static void main(String[] args) throws Exception {
        Sentences.runAll(TrayPromisesTest.class);
    }

    // ---- numbers

    static void term_trays_are_missing_at_first() {
        WriterPace x = Texts.told(Twins.HOST);
        for (int tray = 0; tray < 4; tray++) {
            Check.due("write", x.write(tray, 0, 1), -6);
            Check.due("judge", x.judge(tray, 0), -6);
            Check.due("perform", x.perform(tray), -6);
            Check.due("speeds", x.speeds(tray, 0, 0), -6);
            Check.due("lists", x.lists(tray, 0), -6);
        }
        x.numbers(1, 0, 0);
        Check.due("not missing any more", x.judge(1, 0), -1);
        Check.due("others are", x.judge(0, 0), -6);
        Check.due("others are", x.judge(2, 0), -6);
    }

    static void promise33_a_tray_has_0_to_40_numbers() {
        for (int tray = 0; tray < 4; tray++) {
            for (int sort = 0; sort < 4; sort++) {
                WriterPace x = new WriterPace();
                Check.due("numbers(.., -1)", x.numbers(tray, sort, -1), -3);
                Check.due("numbers(.., 41)", x.numbers(tray, sort, 41), -3);
                Check.due("still missing", x.write(tray, 0, 1), -6);
                Check.due("numbers(.., 40)", x.numbers(tray, sort, 40), 0);
                Check.due("the first place", x.write(tray, 0, 1), 1);
                Check.due("the last place", x.write(tray, 39, 2), 2);
                Check.due("no such place", x.write(tray, 40, 2), -7);
                Check.due("no such place", x.write(tray, -1, 2), -7);
                Check.due("numbers(.., 0)", x.numbers(tray, sort, 0), 0);
                Check.due("no such place", x.write(tray, 0, 1), -7);
                Check.due("numbers(.., 1)", x.numbers(tray, sort, 1), 0);
                Check.due("the only place", x.write(tray, 0, 1), 1);
                Check.due("no such place", x.write(tray, 1, 1), -7);
            }
        }
    }

    static void promise33_all_are_0_in_place_of_another_one() {
        WriterPace x = Texts.told(Twins.HOST);
        x.numbers(0, 2, 40);
        for (int i = 0; i < 40; i++) {
            x.write(0, i, 1 + i);
        }
        Check.due("forty deeds", x.judge(0, 3), 820);
        Check.due("in place of it", x.numbers(0, 2, 40), 0);
        for (int i = 0; i < 40; i++) {
            Check.due("the first 0", x.judge(0, 0), i);
            x.write(0, i, 1);
        }
        Check.due("all written", x.judge(0, 0), -1);
        // A smaller one, then a greater one: what lay behind is not seen again.
        x.numbers(0, 2, 1);
        x.write(0, 0, 1);
        Check.due("one deed", x.judge(0, 3), 1);
        x.numbers(0, 2, 40);
        x.write(0, 0, 1);
        Check.due("0 behind it", x.judge(0, 0), 1);
    }

    static void promise33_a_refused_one_leaves_the_tray() {
        WriterPace x = new WriterPace();
        Texts.fill(x, 2, 0, 5, 6);
        Check.due("numbers(2, 3, 41)", x.numbers(2, 3, 41), -3);
        Check.due("numbers(2, 3, -1)", x.numbers(2, 3, -1), -3);
        Check.due("numbers(2, 4, 3)", x.numbers(2, 4, 3), -2);
        Check.due("numbers(2, -1, 3)", x.numbers(2, -1, 3), -2);
        Check.due("as it was", x.judge(2, 3), 11);
        Check.due("its sort too", x.write(2, 0, 300), 44);
        Check.due("numbers(4, 0, 1)", x.numbers(4, 0, 1), -2);
        Check.due("numbers(-1, 0, 1)", x.numbers(-1, 0, 1), -2);
    }

    // ---- write

    private static void cut(int sort, long v, long due) {
        WriterPace x = new WriterPace();
        x.numbers(1, sort, 2);
        Check.due("write " + v + " of sort " + sort, x.write(1, 1, v), due);
    }

    static void promise34_sort_0_is_cut_to_8_bits() {
        cut(0, 127, 127);
        cut(0, 128, -128);
        cut(0, 255, -1);
        cut(0, 256, 0);
        cut(0, -128, -128);
        cut(0, -129, 127);
        cut(0, Long.MAX_VALUE, -1);
        cut(0, Long.MIN_VALUE, 0);
    }

    static void promise34_sort_1_is_cut_to_16_bits() {
        cut(1, 32767, 32767);
        cut(1, 32768, -32768);
        cut(1, 65535, -1);
        cut(1, 65536, 0);
        cut(1, -32768, -32768);
        cut(1, -32769, 32767);
        cut(1, Long.MAX_VALUE, -1);
        cut(1, Long.MIN_VALUE, 0);
    }

    static void promise34_sort_2_is_cut_to_32_bits() {
        cut(2, Integer.MAX_VALUE, Integer.MAX_VALUE);
        cut(2, Integer.MAX_VALUE + 1L, Integer.MIN_VALUE);
        cut(2, 0xffffffffL, -1);
        cut(2, 1L << 32, 0);
        cut(2, Integer.MIN_VALUE, Integer.MIN_VALUE);
        cut(2, Integer.MIN_VALUE - 1L, Integer.MAX_VALUE);
        cut(2, Long.MAX_VALUE, -1);
        cut(2, Long.MIN_VALUE, 0);
    }

    static void promise34_sort_3_is_not_cut() {
        cut(3, Long.MAX_VALUE, Long.MAX_VALUE);
        cut(3, Long.MIN_VALUE, Long.MIN_VALUE);
        cut(3, 1L << 32, 1L << 32);
        cut(3, -1, -1);
    }

    static void promise34_what_is_there_is_the_cut_number() {
        WriterPace x = new WriterPace();
        for (int sort = 0; sort < 3; sort++) {
            x.numbers(0, sort, 1);
            x.write(0, 0, (1L << (8 << sort)) + 9);
            Check.due("nine ticks of sort " + sort, x.judge(0, 3), 9);
        }
        x.numbers(0, 3, 1);
        x.write(0, 0, (1L << 32) + 9);
        Check.due("no deed of sort 3", x.judge(0, 0), 0);
    }

    // ---- lists

    static void promise35_as_many_as_there_are_places() {
        // A page in each tick from tick 3 on: 8 pages in the first span, 10 in each other one.
        WriterPace x = Texts.told("host limit 99 background 0 age 99 pause 9 window 99 chunk 9 queue 9;"
                + "device speed 100;device speed 999;file on 0;file on 1;writer to 0 wants 1;writer to 1 wants 10;");
        for (int sort = 0; sort < 4; sort++) {
            for (int n : new int[] {0, 1, 2, 39, 40}) {
                x.numbers(3, sort, n);
                Check.due("lists of " + n, x.lists(3, 0), n);
                Check.due("all are there", x.judge(3, 0), -1);
                Check.due("their sum", x.judge(3, 3), n == 0 ? 0 : 10 * n - 2);
            }
        }
        Check.due("nothing is done", x.count(3) + x.count(8), 0);
        x.numbers(3, 0, 40);
        Check.due("another device", x.lists(3, 1), 40);
        Check.due("an idle tray stays", x.judge(0, 0), -6);
        x.lists(3, 0);
        Check.due("in place of what was there", x.judge(3, 3), 398);
    }

    static void promise35_what_a_device_writes_in_a_span_fits_8_bits() {
        WriterPace x = Texts.told("host limit 999 background 0 age 99 pause 9 window 99 chunk 99 queue 99;"
                + "device speed 999;file on 0;writer to 0 wants 99;");
        x.ticks(3);
        x.numbers(0, 0, 1);
        Check.due("lists", x.lists(0, 0), 1);
        // 99 and 9990: a hundred pages, which is no deed and fits one speed of none less.
        Check.due("a hundred is no deed", x.judge(0, 0), 0);
        Check.due("the least speed", x.speeds(0, 0, 1), 991);
        Check.due("the greatest speed", x.speeds(0, 0, 2), 999);
    }

    // ---- image, restore

    static void promise36_two_images_in_place_of_earlier_ones() {
        WriterPace x = Texts.told(Twins.HOST);
        Check.due("image(-1)", x.image(-1), -2);
        Check.due("image(2)", x.image(2), -2);
        x.ticks(1);
        Check.due("image(0)", x.image(0), 0);
        x.ticks(1);
        Check.due("image(1)", x.image(1), 0);
        x.ticks(1);
        x.restore(0);
        Check.due("image 0", x.count(3), 1);
        x.restore(1);
        Check.due("image 1", x.count(3), 2);
        x.ticks(5);
        Check.due("image(0) in place of it", x.image(0), 0);
        x.ticks(5);
        x.restore(0);
        Check.due("image 0", x.count(3), 7);
        x.restore(1);
        Check.due("image 1", x.count(3), 2);
    }

    static void promise36_making_an_image_changes_nothing_else() {
        WriterPace x = Twins.busy();
        WriterPace y = Twins.busy();
        x.image(1);
        x.image(0);
        y.image(0);
        y.image(1);
        Check.due("alike", Twins.story(x), Twins.story(y));
        WriterPace z = Twins.busy();
        z.image(1);
        Check.due("what can be undone", z.count(8), 10);
        Check.due("undo(10)", z.undo(10), 0);
    }

    static void promise37_none_was_made_at_first() {
        WriterPace x = Texts.told(Twins.HOST);
        Check.due("restore(0)", x.restore(0), -5);
        Check.due("restore(1)", x.restore(1), -5);
        Check.due("restore(2)", x.restore(2), -2);
        Check.due("restore(-1)", x.restore(-1), -2);
        x.image(1);
        Check.due("restore(0)", x.restore(0), -5);
        Check.due("restore(1)", x.restore(1), 0);
    }

    static void promise37_all_is_as_it_was_and_nothing_can_be_undone() {
        WriterPace x = Twins.busy();
        x.image(1);
        long seen = Seen.all(x);
        Texts.tell(x, OTHER);
        x.ticks(30);
        x.speed(0, 5);
        Check.due("restore(1)", x.restore(1), 0);
        Check.due("as it was", Seen.all(x), seen);
        Check.due("nothing can be undone", x.count(8), 0);
        Check.due("undo(1)", x.undo(1), -3);
        x.ticks(4);
        Check.due("what is done then can", x.undo(1), 0);
        Check.due("as it was", Seen.all(x), seen);
    }

    static void promise37_tape_trays_and_faults_are_in_no_image() {
        WriterPace x = Twins.busy();
        x.numbers(0, 0, 1);
        x.write(0, 0, 5);
        Check.due("restore(0)", x.restore(0), 0);
        Check.due("the tape", x.count(9), 40);
        Check.due("the fault", x.fault(0), 3);
        Check.due("its place", x.fault(1), 11);
        Check.due("the tray", x.judge(0, 3), 14);
        Check.due("image 1 is still none", x.restore(1), -5);
    }

    static void promise37_an_image_of_an_object_without_a_text() {
        WriterPace x = new WriterPace();
        x.image(0);
        Texts.tell(x, Twins.HOST);
        x.ticks(9);
        x.image(1);
        x.restore(0);
        for (int what = 0; what <= 10; what++) {
            Check.due("count(" + what + ")", x.count(what), 0);
        }
        Check.due("limit", x.set(0), 100);
        Check.due("device", x.device(0, 0), -2);
        x.restore(1);
        Check.due("devices", x.count(0), 2);
        Check.due("lines", x.count(10), 11);
    }

    static void promise37_images_hold_told_numbers_and_laws() {
        WriterPace x = Texts.told(Twins.HOST);
        x.speed(0, 1);
        x.wants(0, 77);
        x.image(0);
        Texts.tell(x, OTHER);
        x.later(200, 0);
        x.restore(0);
        Check.due("speed", x.device(0, 0), 1);
        Check.due("its estimate", x.device(0, 4), 120000);
        Check.due("wants", x.writer(0, 1), 77);
        WriterPace y = Texts.told(Twins.HOST);
        y.speed(0, 1);
        y.wants(0, 77);
        x.ticks(150);
        y.ticks(150);
        Check.due("by the same laws", Seen.all(x), Seen.all(y));
    }

    static void promise37_laws_of_one_host_are_not_those_of_another() {
        String head = "host limit 999 background 0 age 99 pause 9 window 99 chunk 99 queue 99;"
                + "device speed 100;file on 0;writer to 0 wants 7;";
        WriterPace x = Texts.told(head + "wants : told + 1;speed : told * 2;");
        x.image(0);
        Texts.tell(x, head + "wants : told + 2;speed : told * 3;");
        x.image(1);
        Texts.tell(x, head);
        for (int round = 0; round < 2; round++) {
            x.later(110, 0);
            x.restore(0);
            Check.due("speed of image 0", x.ticks(3), 2);
            Check.due("wants of image 0", x.writer(0, 4), 24);
            x.later(110, 0);
            x.restore(1);
            Check.due("speed of image 1", x.ticks(3), 3);
            Check.due("wants of image 1", x.writer(0, 4), 27);
        }
    }

    // ---- count

    static void promise38_all_eleven_and_none_for_others() {
        WriterPace x = Texts.told("host limit 50 background 0 age 99 pause 9 window 4 chunk 99 queue 9;"
                + "device speed 250;device speed 0;file on 0;file on 1;file on 1;writer to 0 wants 3;"
                + "wants : told;");
        x.ticks(3);
        x.ticks(2);
        x.feed(1, 2, 3, 4, 5);
        // Five ticks reckoned by hand: written 7, in flight 5, dirty 3.
        int[] due = {2, 3, 1, 5, 8, 3, 15, 7, 2, 20, 8};
        for (int what = 0; what < due.length; what++) {
            Check.due("count(" + what + ")", x.count(what), due[what]);
        }
        for (int what : new int[] {-1, 11, Integer.MIN_VALUE, Integer.MAX_VALUE}) {
            Check.due("count(" + what + ")", x.count(what), -1);
        }
    }

    static void promise38_the_greatest_counts() {
        WriterPace x = Texts.told("host limit 999 background 0 age 99 pause 9 window 4 chunk 99 queue 9;"
                + "device speed 0;".repeat(4) + "file on 3;".repeat(12) + "writer to 11 wants 99;".repeat(6));
        Check.due("devices", x.count(0), 4);
        Check.due("files", x.count(1), 12);
        Check.due("writers", x.count(2), 6);
        Check.due("lines", x.count(10), 23);
        for (int i = 0; i < 11; i++) {
            x.ticks(999);
        }
        Check.due("ticks", x.count(3), 10989);
        Check.due("all is the limit", x.count(4), 999);
        Check.due("dirty", x.count(5), 990);
        Check.due("calls to undo", x.count(8), 10);
    }
}
