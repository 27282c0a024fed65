/** Promises 11 to 17, deeds, loads and what can be undone, at their bounds. */
public final class DeedsPromisesTest {
    private static final String TWO = "host limit 99 background 0 age 99 pause 9 window 99 chunk 9 queue 9;"
            + "device speed 100;device speed 200;file on 0;file on 1;writer to 0 wants 1;writer to 1 wants 2;";
    /** Four devices, six writers: all deeds can be. */
    private static final String ALL = "host limit 40 background 2 age 6 pause 9 window 5 chunk 3 queue 6;"
            + "device speed 1;device speed 2;device speed 3;device speed 4;file on 0;"
            + "writer to 0 wants 1;".repeat(6);

    public static void main(String[] args) throws Exception {
        Sentences.runAll(DeedsPromisesTest.class);
    }

    // ---- ticks

    static void promise11_ticks_1_to_999() {
        WriterPace x = Texts.told(TWO);
        Check.due("ticks(0)", x.ticks(0), -3);
        Check.due("ticks(1000)", x.ticks(1000), -3);
        Check.due("no tick was", x.count(3), 0);
        Check.due("ticks(1)", x.ticks(1), 0);
        Check.due("one tick was", x.count(3), 1);
        Check.due("ticks(1)", x.ticks(1), 0);
        Check.due("both devices", x.ticks(1), 3);
        Check.due("ticks(999)", x.ticks(999), 2997);
        Check.due("ticks", x.count(3), 1002);
        Check.due("each call is one to undo", x.count(8), 4);
        Check.due("of both, in all", x.count(7), 3000);
    }

    // ---- speed

    static void promise12_a_speed_of_0_to_999() {
        WriterPace x = Texts.told(TWO);
        Check.due("speed(0, -1)", x.speed(0, -1), -11);
        Check.due("speed(0, 1000)", x.speed(0, 1000), -11);
        Check.due("as it was", x.device(0, 0), 100);
        Check.due("speed(0, 0)", x.speed(0, 0), 100);
        Check.due("speed(0, 999)", x.speed(0, 999), 0);
        Check.due("speed(1, 1)", x.speed(1, 1), 200);
        Check.due("speed(0, 5)", x.speed(0, 5), 999);
        Check.due("speed(2, 5)", x.speed(2, 5), -11);
        Check.due("speed(-1, 5)", x.speed(-1, 5), -11);
        Check.due("four were done", x.count(8), 4);
        Check.due("the estimate stays", x.device(0, 4), 100000);
        Check.due("no tick was", x.count(3), 0);
    }

    static void promise12_the_last_of_four_devices() {
        WriterPace x = Texts.told(ALL);
        Check.due("speed(3, 999)", x.speed(3, 999), 4);
        Check.due("speed(4, 999)", x.speed(4, 999), -11);
    }

    // ---- wants

    static void promise13_wants_of_0_to_99() {
        WriterPace x = Texts.told(TWO);
        Check.due("wants(1, -1)", x.wants(1, -1), -11);
        Check.due("wants(1, 100)", x.wants(1, 100), -11);
        Check.due("as it was", x.writer(1, 1), 2);
        Check.due("wants(1, 0)", x.wants(1, 0), 2);
        Check.due("wants(1, 99)", x.wants(1, 99), 0);
        Check.due("wants(0, 3)", x.wants(0, 3), 1);
        Check.due("wants(1, 4)", x.wants(1, 4), 99);
        Check.due("wants(2, 4)", x.wants(2, 4), -11);
        Check.due("wants(-1, 4)", x.wants(-1, 4), -11);
        Check.due("four were done", x.count(8), 4);
        x.ticks(1);
        Check.due("from then on", x.writer(0, 4) * 10 + x.writer(1, 4), 34);
    }

    static void promise13_the_last_of_six_writers() {
        WriterPace x = Texts.told(ALL);
        Check.due("wants(5, 99)", x.wants(5, 99), 1);
        Check.due("wants(6, 99)", x.wants(6, 99), -11);
    }

    // ---- undo

    static void promise14_undo_1_to_10() {
        for (int n = 1; n <= 10; n++) {
            WriterPace x = Texts.told(TWO);
            for (int i = 1; i <= 10; i++) {
                x.ticks(i);
            }
            Check.due("undo(0)", x.undo(0), -3);
            Check.due("undo(11)", x.undo(11), -3);
            Check.due("undo(" + n + ")", x.undo(n), 10 - n);
            Check.due("ticks", x.count(3), (10 - n) * (11 - n) / 2);
            Check.due("more than can be", x.undo(11 - n), -3);
            Check.due("ticks", x.count(3), (10 - n) * (11 - n) / 2);
            Check.due("count(8)", x.count(8), 10 - n);
        }
    }

    static void term_ten_can_be_undone_at_most_and_the_eldest_are_forgotten() {
        for (int done = 1; done <= 35; done++) {
            WriterPace x = Texts.told(TWO);
            for (int i = 0; i < done; i++) {
                x.ticks(1);
            }
            int can = Math.min(10, done);
            Check.due("can be undone of " + done, x.count(8), can);
            Check.due("one more than can be", x.undo(can + 1), -3);
            Check.due("undo all of " + done, x.undo(can), 0);
            Check.due("ticks of " + done, x.count(3), done - can);
            Check.due("undo(1)", x.undo(1), -3);
        }
    }

    static void term_undone_ones_make_room_for_others() {
        WriterPace x = Texts.told(TWO);
        for (int i = 0; i < 12; i++) {
            x.ticks(1);
        }
        Check.due("undo(3)", x.undo(3), 7);
        Check.due("ticks", x.count(3), 9);
        for (int i = 0; i < 4; i++) {
            x.ticks(100);
            Check.due("can be undone", x.count(8), Math.min(10, 8 + i));
        }
        Check.due("undo(4)", x.undo(4), 6);
        Check.due("ticks", x.count(3), 9);
        Check.due("undo(6)", x.undo(6), 0);
        Check.due("the eldest was forgotten for the 11th", x.count(3), 3);
    }

    /** Does one of five calls that do some. */
    private static void act(WriterPace x, int which) {
        switch (which) {
            case 0:
                x.ticks(13);
                break;
            case 1:
                x.speed(0, 37);
                break;
            case 2:
                x.wants(1, 17);
                break;
            case 3:
                x.perform(0);
                break;
            default:
                x.load(99, 20);
                break;
        }
    }

    static void term_each_call_is_undone_as_a_whole() {
        for (int which = 0; which < 5; which++) {
            WriterPace x = Twins.busy();
            WriterPace y = Twins.busy();
            // Ten are there already: the eldest is forgotten by the call, and so it is by another one.
            act(x, which);
            Check.due("call " + which + " can be undone", x.count(8), 10);
            Check.due("undo(1)", x.undo(1), 9);
            y.wants(0, 50);
            y.undo(1);
            Check.due("all of it is undone, call " + which, Twins.story(x), Twins.story(y));
        }
    }

    static void term_whose_turn_it_is_is_undone_too() {
        WriterPace x = Texts.told("host limit 99 background 0 age 99 pause 9 window 99 chunk 1 queue 1;"
                + "device speed 100;file on 0;file on 0;file on 0;"
                + "writer to 0 wants 5;writer to 1 wants 5;writer to 2 wants 5;"
                + "wants : if time = 1 then told else 0 end;");
        x.ticks(1);
        for (int i = 0; i < 6; i++) {
            Check.due("next", x.next(0), i % 3);
            x.ticks(1);
        }
        for (int i = 5; i >= 0; i--) {
            Check.due("undo(1)", x.undo(1), i + 1);
            Check.due("next", x.next(0), i % 3);
        }
    }

    static void term_calls_that_did_none_cannot_be_undone() {
        WriterPace x = Texts.told(TWO);
        x.ticks(1);
        x.ticks(0);
        x.speed(2, 1);
        x.speed(0, 1000);
        x.wants(2, 1);
        x.wants(0, 100);
        x.undo(2);
        x.later(9, 0);
        x.image(0);
        x.feed(1, 2, 3, 4, 5);
        x.numbers(0, 2, 2);
        Check.due("a tray of which nothing can be", x.perform(0), 0);
        x.numbers(1, 2, 0);
        Check.due("a tray of no numbers", x.perform(1), 0);
        x.judge(0, 0);
        x.load(1, 0);
        Check.due("the ticks alone", x.count(8), 1);
        WriterPace y = new WriterPace();
        // A draw of 2 or 3 can't be without devices and writers.
        int none = 0;
        for (int seed = 0; seed < 12; seed++) {
            int before = y.count(8);
            int could = y.load(seed, 1);
            none += could == 0 ? 1 : 0;
            Check.due("load by " + seed, y.count(8), Math.min(10, before + could));
        }
        Check.holds("some did none", none > 2 && none < 12);
    }

    // ---- deeds

    private static void deed(String host, long v, boolean can) {
        WriterPace x = Texts.told(host);
        Texts.fill(x, 0, 3, v);
        Check.due("where deed " + v + " can't be", x.judge(0, 0), can ? -1 : 0);
        Check.due("why deed " + v + " can't be", x.judge(0, 1), can ? 0 : 1);
        Check.due("perform " + v, x.perform(0), can ? 1 : 0);
        Check.due("undoable", x.count(8), can ? 1 : 0);
        if (!can) {
            Check.due("nothing is done by " + v, Seen.all(x), Seen.all(Texts.told(host)));
        }
    }

    static void term_deeds_1_to_99_are_ticks() {
        deed(ALL, 0, false);
        deed(ALL, 1, true);
        deed(ALL, 99, true);
        deed(ALL, 100, false);
        deed(ALL, -1, false);
        for (int n : new int[] {1, 2, 98, 99}) {
            WriterPace x = Texts.told(ALL);
            Texts.fill(x, 0, 0, n);
            x.perform(0);
            Check.due("so many", x.count(3), n);
        }
    }

    static void term_deeds_10000_to_13999_tell_a_speed() {
        deed(ALL, 9999, false);
        deed(ALL, 10000, true);
        deed(ALL, 13999, true);
        deed(ALL, 14000, false);
        deed(TWO, 10000, true);
        deed(TWO, 11999, true);
        deed(TWO, 12000, false);
        deed(TWO, 13999, false);
        for (int v : new int[] {10000, 10999, 11000, 11001, 12500, 13000, 13999}) {
            WriterPace x = Texts.told(ALL);
            Texts.fill(x, 0, 1, v);
            x.perform(0);
            for (int d = 0; d < 4; d++) {
                Check.due("speed of " + d + " by " + v, x.device(d, 0), d == v / 1000 - 10 ? v % 1000 : d + 1);
            }
        }
    }

    static void term_deeds_20000_to_20599_tell_wants() {
        deed(ALL, 19999, false);
        deed(ALL, 20000, true);
        deed(ALL, 20599, true);
        deed(ALL, 20600, false);
        deed(TWO, 20199, true);
        deed(TWO, 20200, false);
        for (int v : new int[] {20000, 20099, 20100, 20250, 20333, 20400, 20500, 20599}) {
            WriterPace x = Texts.told(ALL);
            Texts.fill(x, 0, 1, v);
            x.perform(0);
            for (int w = 0; w < 6; w++) {
                Check.due("wants of " + w + " by " + v, x.writer(w, 1), w == v / 100 - 200 ? v % 100 : 1);
            }
        }
    }

    static void term_deeds_without_a_text_are_ticks_alone() {
        WriterPace x = new WriterPace();
        for (long v : new long[] {10000, 13999, 20000, 20599}) {
            Texts.fill(x, 0, 2, v);
            Check.due("deed " + v, x.judge(0, 0), 0);
        }
        Texts.fill(x, 0, 2, 99);
        Check.due("deed 99", x.judge(0, 0), -1);
    }

    static void term_other_deeds_cannot_be() {
        for (long v : new long[] {Long.MIN_VALUE, Long.MAX_VALUE, Integer.MIN_VALUE, Integer.MAX_VALUE,
            (1L << 32) + 5, (1L << 32) + 10000, (1L << 32) + 20000, 1000, 9998, 15000, 19000, 21000, 30000}) {
            deed(ALL, v, false);
        }
    }

    // ---- judge

    static void promise15_the_first_place_that_cannot_be() {
        for (int place = 0; place <= 3; place++) {
            WriterPace x = Texts.told(TWO);
            x.ticks(2);
            Texts.fill(x, 2, 2, 4, 10300, 5);
            if (place < 3) {
                x.write(2, place, 100);
            }
            int[] ticks = {2, 6, 6, 11};
            WriterPace y = Texts.told(TWO);
            y.ticks(2);
            if (place > 0) {
                y.ticks(4);
            }
            if (place > 1) {
                y.speed(0, 300);
            }
            if (place > 2) {
                y.ticks(5);
            }
            Check.due("the place", x.judge(2, 0), place < 3 ? place : -1);
            Check.due("why", x.judge(2, 1), place < 3 ? 1 : 0);
            Check.due("all then", x.judge(2, 2), y.count(4));
            Check.due("how many ticks", x.judge(2, 3), ticks[place]);
            Check.due("judged as if done", x.count(3), 2);
        }
    }

    static void promise15_a_tray_of_no_numbers_and_one_of_forty() {
        WriterPace x = Texts.told(TWO);
        x.ticks(3);
        x.numbers(1, 0, 0);
        Check.due("none: the place", x.judge(1, 0), -1);
        Check.due("none: why", x.judge(1, 1), 0);
        Check.due("none: all", x.judge(1, 2), x.count(4));
        Check.due("none: ticks", x.judge(1, 3), 3);
        x.numbers(1, 0, 40);
        for (int i = 0; i < 40; i++) {
            x.write(1, i, 99);
        }
        Check.due("forty: the place", x.judge(1, 0), -1);
        Check.due("forty: ticks", x.judge(1, 3), 3 + 40 * 99);
        x.write(1, 39, 100);
        Check.due("the last one can't be", x.judge(1, 0), 39);
        Check.due("ticks till it", x.judge(1, 3), 3 + 39 * 99);
    }

    static void promise15_each_tray_is_its_own() {
        WriterPace x = Texts.told(TWO);
        for (int tray = 0; tray < 4; tray++) {
            Texts.fill(x, tray, tray, 10 + tray);
        }
        for (int tray = 0; tray < 4; tray++) {
            Check.due("judge(" + tray + ", 3)", x.judge(tray, 3), 10 + tray);
        }
    }

    // ---- perform

    static void promise16_done_till_one_cannot_be() {
        for (int place = 0; place <= 4; place++) {
            WriterPace x = Texts.told(TWO);
            Texts.fill(x, 3, 3, 4, 10300, 5, 20099);
            if (place < 4) {
                x.write(3, place, 14000);
            }
            Check.due("how many", x.perform(3), place);
            Check.due("ticks", x.count(3), place > 2 ? 9 : place > 0 ? 4 : 0);
            Check.due("speed", x.device(0, 0), place > 1 ? 300 : 100);
            Check.due("wants", x.writer(0, 1), place > 3 ? 99 : 1);
            Check.due("to undo", x.count(8), place > 0 ? 1 : 0);
        }
    }

    static void promise16_forty_deeds() {
        WriterPace x = Texts.told(TWO);
        x.numbers(0, 2, 40);
        for (int i = 0; i < 40; i++) {
            x.write(0, i, i % 2 == 0 ? 99 : 10000 + i);
        }
        Check.due("all forty", x.perform(0), 40);
        Check.due("ticks", x.count(3), 20 * 99);
        Check.due("the last one", x.device(0, 0), 39);
        Check.due("one call", x.count(8), 1);
        Check.due("undone", x.undo(1), 0);
        Check.due("ticks", x.count(3), 0);
        Check.due("the tray stays", x.perform(0), 40);
    }

    static void term_an_object_is_used_for_512_calls() {
        WriterPace x = new WriterPace();
        String text = "host limit 999 background 0 age 99 pause 9 window 50 chunk 99 queue 99;"
                + "device speed 999;file on 0;writer to 0 wants 9;";
        Check.due("six feeds and a host", Texts.tell(x, text), 4);
        int calls = 7;
        x.numbers(0, 0, 40);
        for (int i = 0; i < 40; i++) {
            x.write(0, i, 99);
        }
        calls += 41;
        int ticks = 0;
        for (; calls < 508; calls++) {
            Check.due("forty deeds", x.perform(0), 40);
            ticks += 40 * 99;
        }
        Check.due("ticks", x.count(3), ticks);
        Check.due("pages writers wrote", x.count(6), 9L * ticks);
        Check.due("pages devices wrote", x.count(7), 9L * ticks - 18);
        Check.due("calls to undo", x.undo(10), 0);
    }

    // ---- load

    private static int seed;

    private static int draw() {
        seed = 1103515245 * seed + 12345;
        return seed >>> 16;
    }

    /** The deeds of a load, laid into tray 0 one by one and done if they can be. */
    private static int byHand(WriterPace y, int times) {
        int could = 0;
        y.numbers(0, 2, 1);
        for (int i = 0; i < times; i++) {
            int sort = draw() % 4;
            int deed;
            if (sort < 2) {
                deed = 1 + draw() % 9;
            } else if (sort == 2) {
                deed = 10000 + 1000 * (draw() % 4);
                deed += draw() % 1000;
            } else {
                deed = 20000 + 100 * (draw() % 6);
                deed += draw() % 20;
            }
            y.write(0, 0, deed);
            could += y.perform(0);
        }
        return could;
    }

    private static void load(String host, int from, int times) {
        WriterPace x = Texts.told(host);
        WriterPace y = Texts.told(host);
        seed = from;
        int could = byHand(y, times);
        Check.due("load(" + from + ", " + times + ")", x.load(from, times), could);
        Check.due("all of load(" + from + ", " + times + ")", Seen.all(x), Seen.all(y));
        Check.due("one call to undo", x.count(8), could > 0 ? 1 : 0);
    }

    static void promise17_1_to_20_times() {
        WriterPace x = Texts.told(ALL);
        Check.due("load(1, 0)", x.load(1, 0), -3);
        Check.due("load(1, 21)", x.load(1, 21), -3);
        Check.due("nothing is done", x.count(3) + x.count(8), 0);
        Check.due("all can be with all there", x.load(1, 20), 20);
        for (int times = 1; times <= 20; times++) {
            load(ALL, 4711, times);
            load(TWO, 4711, times);
        }
    }

    static void promise17_any_int_is_a_seed_and_wraps_around() {
        for (int from : new int[] {0, 1, -1, 2, 12345, -12345, 1 << 30, 1 << 31, Integer.MAX_VALUE,
            Integer.MAX_VALUE - 1, Integer.MIN_VALUE + 1, 0x10000, 0xffff0000}) {
            load(ALL, from, 20);
            load(TWO, from, 20);
            load(Texts.HEAD, from, 20);
        }
    }

    static void promise17_the_first_draws_reckoned_by_hand() {
        // Seed 0: x is 12345, the draw 0: a deed of ticks; then x is -740551042, its draw 54236,
        // which is 2 modulo 9: three ticks.
        WriterPace x = Texts.told(ALL);
        Check.due("load(0, 1)", x.load(0, 1), 1);
        Check.due("ticks", x.count(3), 3);
    }
}
