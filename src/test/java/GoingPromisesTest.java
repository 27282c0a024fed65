/** Promises 18 to 28 at their bounds: behind 0, 1 and 999 ticks, the least and the greatest numbers. */
public final class GoingPromisesTest {
    /** A page in each tick, and none is ever pushed. */
    private static final String HEAP = "host limit 999 background 998 age 999 pause 1 window 99 chunk 1 queue 1;"
            + "device speed 0;file on 0;writer to 0 wants 1;";
    /** Ninety-nine pages are dirty at tick 1 and in flight at tick 2; nobody writes later. */
    private static final String ONCE = "host limit 999 background 0 age 99 pause 9 window 50 chunk 99 queue 99;"
            + "device speed 100;device speed 100;file on 0;writer to 0 wants 99;";

    public static void main(String[] args) throws Exception {
        Sentences.runAll(GoingPromisesTest.class);
    }

    private static WriterPace once(int speed) {
        WriterPace x = Texts.told(ONCE);
        x.ticks(1);
        x.wants(0, 0);
        x.speed(0, speed);
        x.ticks(1);
        return x;
    }

    // ---- later

    static void promise18_n_is_0_to_999() {
        WriterPace x = Texts.told(HEAP);
        Check.due("later(-1, 0)", x.later(-1, 0), -3);
        Check.due("later(0, 0)", x.later(0, 0), 0);
        Check.due("later(1, 0)", x.later(1, 0), 1);
        Check.due("later(998, 4)", x.later(998, 4), 998);
        Check.due("later(999, 0)", x.later(999, 0), 999);
        Check.due("later(999, 4)", x.later(999, 4), 999);
        Check.due("later(1000, 0)", x.later(1000, 0), -3);
    }

    static void promise18_what_is_0_to_4() {
        WriterPace x = once(100);
        int[] now = {99, 0, 99, 0, 0};
        int[] ten = {89, 0, 89, 10, 0};
        x.wants(0, 3);
        // The 3 pages of tick 3 go in flight at tick 4, and so on: written 10, made 30.
        int[] more = {119, 20, 99, 10, 30};
        for (int what = 0; what <= 4; what++) {
            Check.due("now, what " + what, x.later(0, what), now[what]);
            Check.due("writing, what " + what, x.later(10, what), more[what]);
        }
        x.undo(1);
        for (int what = 0; what <= 4; what++) {
            Check.due("behind ten, what " + what, x.later(10, what), ten[what]);
        }
        Check.due("later(0, -1)", x.later(0, -1), -2);
        Check.due("later(0, 5)", x.later(0, 5), -2);
    }

    static void promise18_pages_before_do_not_count() {
        WriterPace x = once(100);
        x.ticks(5);
        Check.due("devices wrote before", x.count(7), 5);
        Check.due("writers wrote before", x.count(6), 99);
        Check.due("devices wrote", x.later(10, 3), 10);
        Check.due("writers wrote", x.later(10, 4), 0);
    }

    /** All that there may be of each: every call goes through all of it, as the plain model does. */
    static void term_a_full_host_goes_as_the_model_does() {
        String text = "host limit 200 background 5 age 7 pause 9 window 5 chunk 3 queue 6;"
                + "device speed 120;device speed 70;device speed 300;device speed 45;"
                + "file on 0;file on 1;file on 2;file on 3;".repeat(3)
                + "writer to 11 wants 3;writer to 0 wants 2;writer to 10 wants 4;writer to 5 wants 1;"
                + "writer to 3 wants 2;writer to 7 wants 3;wants : told + time * 0;speed : told - time + 10;";
        WriterPace x = new WriterPace();
        Model m = new Model();
        byte[] b = Texts.bytes(text);
        for (int at = 0; at < b.length; at += 20) {
            int[] v = Texts.bytesAt(b, at);
            x.feed(v[0], v[1], v[2], v[3], v[4]);
            m.feed(v[0], v[1], v[2], v[3], v[4]);
        }
        Check.due("host", x.host(b.length), m.host(b.length));
        for (int round = 0; round < 2; round++) {
            Check.due("ticks", x.ticks(33), m.ticks(33));
            Check.due("speed", x.speed(3, 99), m.speed(3, 99));
            Check.due("wants", x.wants(5, 9), m.wants(5, 9));
            Check.due("oldest", x.oldest(150), m.oldest(150));
            Check.due("drains", x.drains(), m.drains());
            Check.due("passes", x.passes(150), m.passes(150));
            Check.due("fair", x.fair(99, 1), m.fair(99, 1));
            Check.due("held", x.held(300), m.held(300));
            Check.due("enough", x.enough(60), m.enough(60));
            Check.due("bears", x.bears(5, 60), m.bears(5, 60));
            Check.due("mean", x.mean(3, 0), m.mean(3, 0));
            Check.due("chance", x.chance(120, 3, 0), m.chance(120, 3, 0));
            for (int d = 0; d < 4; d++) {
                Check.due("busiest", x.busiest(d), m.busiest(d));
                Check.due("starved", x.starved(d, 200), m.starved(d, 200));
                Check.due("written", x.written(d, 30), m.written(d, 30));
                Check.due("next", x.next(d), m.next(d));
            }
            for (int what = 0; what <= 4; what++) {
                Check.due("later", x.later(200, what), m.later(200, what));
            }
            for (int what = 0; what <= 2; what++) {
                Check.due("most", x.most(200, what), m.most(200, what));
            }
        }
    }

    // ---- passes

    static void promise19_k_is_0_to_999() {
        WriterPace x = Texts.told(HEAP);
        Check.due("passes(-1)", x.passes(-1), -3);
        Check.due("passes(0)", x.passes(0), 1);
        Check.due("passes(998)", x.passes(998), 999);
        Check.due("never above the limit", x.passes(999), -1);
        Check.due("passes(1000)", x.passes(1000), -3);
    }

    static void promise19_behind_0_and_behind_999_ticks() {
        WriterPace x = Texts.told(HEAP);
        x.ticks(5);
        Check.due("above now", x.passes(4), 0);
        Check.due("not above now", x.passes(5), 1);
        WriterPace y = Texts.told(HEAP + "wants : if time = 0 then told else 0 end;");
        // The tenth page is made at tick 1000.
        Check.due("behind 1000", y.passes(9), -1);
        y.ticks(1);
        Check.due("behind 999", y.passes(9), 999);
        y.ticks(1);
        Check.due("behind 998", y.passes(9), 998);
    }

    // ---- oldest

    static void promise20_n_is_1_to_999() {
        WriterPace x = Texts.told(HEAP);
        Check.due("oldest(0)", x.oldest(0), -3);
        Check.due("oldest(1)", x.oldest(1), 0);
        Check.due("oldest(2)", x.oldest(2), 1);
        Check.due("oldest(999)", x.oldest(999), 998);
        Check.due("oldest(1000)", x.oldest(1000), -3);
        x.ticks(1);
        Check.due("from now on", x.oldest(1), 1);
        // Of two pages one goes in flight at tick 1000, and the other one stays.
        x.ticks(1);
        x.wants(0, 0);
        Check.due("oldest(998)", x.oldest(998), 999);
        Check.due("oldest(999)", x.oldest(999), 1000);
    }

    static void promise20_behind_each_tick_not_now() {
        // Old at tick 5: the page that is 3 ticks old now is gone behind the next one.
        WriterPace x = Texts.told("host limit 99 background 98 age 4 pause 1 window 99 chunk 9 queue 9;"
                + "device speed 0;file on 0;writer to 0 wants 1;");
        x.ticks(4);
        Check.due("now", x.file(0, 2), 3);
        Check.due("behind one", x.oldest(1), 0);
        Check.due("behind four", x.oldest(4), 3);
        x.wants(0, 0);
        Check.due("there are none behind any", x.oldest(9), -1);
    }

    // ---- drains

    static void promise21_behind_0_and_behind_999_ticks() {
        WriterPace x = Texts.told(ONCE);
        Check.due("there is none now", x.drains(), 0);
        // The 99th page is written when 9900 of credit have come.
        Check.due("at 100", once(100).drains(), 99);
        Check.due("at 99", once(99).drains(), 100);
        Check.due("at 10", once(10).drains(), 990);
        Check.due("at 9", once(9).drains(), -1);
        Check.due("at 0", once(0).drains(), -1);
        WriterPace y = Texts.told(ONCE + "speed : if time > 50 then 10 else 9 end;");
        y.ticks(1);
        y.wants(0, 0);
        y.ticks(1);
        // 950 in a hundred ticks: 9900 are there behind some 1042.
        Check.due("by the law", y.drains(), -1);
    }

    static void promise21_at_999_and_at_1000_ticks() {
        WriterPace x = Texts.told("host limit 999 background 0 age 99 pause 9 window 50 chunk 99 queue 99;"
                + "device speed 1;file on 0;writer to 0 wants 10;");
        x.ticks(1);
        x.wants(0, 0);
        x.ticks(1);
        Check.due("behind 1000", x.drains(), -1);
        x.ticks(1);
        Check.due("behind 999", x.drains(), 999);
        x.wants(0, 99);
        Check.due("though others would write", x.drains(), 999);
    }

    // ---- written

    static void promise22_k_is_1_to_9999() {
        WriterPace x = once(100);
        Check.due("written(0, 0)", x.written(0, 0), -3);
        Check.due("written(0, 1)", x.written(0, 1), 1);
        Check.due("written(0, 99)", x.written(0, 99), 99);
        Check.due("written(0, 100)", x.written(0, 100), -1);
        Check.due("written(0, 9999)", x.written(0, 9999), -1);
        Check.due("written(0, 10000)", x.written(0, 10000), -3);
        Check.due("of another device", x.written(1, 1), -1);
        Check.due("several in a tick: the first", once(999).written(0, 1), 1);
        Check.due("several in a tick: the ninth", once(999).written(0, 9), 1);
        Check.due("several in a tick: the tenth", once(999).written(0, 10), 2);
    }

    static void promise22_behind_999_ticks() {
        WriterPace x = once(1);
        Check.due("the ninth", x.written(0, 9), 900);
        Check.due("the tenth is behind 1000", x.written(0, 10), -1);
        x.ticks(1);
        Check.due("the tenth is behind 999", x.written(0, 10), 999);
        // Nearly ten in each tick: 9981 in 999 ticks, as there is some credit.
        WriterPace y = Texts.told("host limit 999 background 0 age 99 pause 9 window 50 chunk 99 queue 99;"
                + "device speed 999;file on 0;writer to 0 wants 10;");
        y.ticks(3);
        Check.due("credit", y.device(0, 3), 99);
        Check.due("the 9981st", y.written(0, 9981), 999);
        Check.due("the 9982nd", y.written(0, 9982), -1);
    }

    // ---- starved

    static void promise23_n_is_1_to_999() {
        WriterPace x = Texts.told(HEAP);
        Check.due("starved(0, 0)", x.starved(0, 0), -3);
        Check.due("starved(0, 1)", x.starved(0, 1), 1);
        Check.due("starved(0, 998)", x.starved(0, 998), 998);
        // All is 999, above background, only at the end of tick 999.
        Check.due("starved(0, 999)", x.starved(0, 999), 999);
        Check.due("starved(0, 1000)", x.starved(0, 1000), -3);
        x.ticks(1);
        Check.due("not at the end of tick 1000", x.starved(0, 999), 998);
    }

    static void promise23_none_in_flight_but_dirty_pages_at_the_end() {
        WriterPace x = Texts.told(ONCE);
        // Behind tick 1: dirty, none in flight. Behind tick 2: both.
        Check.due("starved(0, 1)", x.starved(0, 1), 1);
        Check.due("starved(0, 2)", x.starved(0, 2), 1);
        Check.due("neither", x.starved(1, 999), 0);
        Check.due("in flight, none dirty", once(0).starved(0, 999), 0);
    }

    // ---- fair

    private static void fraction(WriterPace x, int n, long above, long below) {
        Check.due("fair(" + n + ", 0)", x.fair(n, 0), above);
        Check.due("fair(" + n + ", 1)", x.fair(n, 1), below);
    }

    static void promise24_from_one_by_all_writers_to_1() {
        String head = "host limit 999 background 0 age 99 pause 9 window 50 chunk 99 queue 99;"
                + "device speed 999;file on 0;writer to 0 wants 9;";
        for (int writers = 1; writers <= 6; writers++) {
            WriterPace x = Texts.told(head + "writer to 0 wants 0;".repeat(writers - 1));
            fraction(x, 1, 1, writers);
            fraction(x, 999, 1, writers);
        }
        WriterPace y = Texts.told(head.replace("wants 9", "wants 1") + "writer to 0 wants 1;".repeat(5));
        fraction(y, 999, 1, 1);
        Check.due("fair(0, 0)", y.fair(0, 0), -3);
        Check.due("fair(1000, 0)", y.fair(1000, 0), -3);
    }

    static void promise24_numbers_beyond_an_int() {
        // Four writers of 9971 pages, two of none: 6 times 4 times 9971 times itself is 2386100184.
        StringBuilder text = new StringBuilder("host limit 999 background 0 age 99 pause 9 window 50 chunk 99 "
                + "queue 99;");
        for (int d = 0; d < 4; d++) {
            text.append("device speed 999;file on ").append(d).append(";writer to ").append(d).append(" wants 1;");
        }
        WriterPace x = Texts.told(text + "writer to 0 wants 0;writer to 0 wants 0;"
                + "wants : if time = 0 or time = 50 then told * 9 else told * 10 end;");
        Check.due("pages", x.most(999, 1), 9971);
        fraction(x, 999, 2, 3);
        x.wants(0, 0);
        fraction(x, 999, 1, 2);
    }

    static void promise24_nobody_writes() {
        WriterPace x = Texts.told(HEAP.replace("wants 1", "wants 0"));
        fraction(x, 999, -1, -1);
        WriterPace y = Texts.told("host limit 5 background 4 age 99 pause 1 window 99 chunk 1 queue 1;"
                + "device speed 0;file on 0;writer to 0 wants 9;");
        fraction(y, 1, 1, 1);
        y.ticks(1);
        fraction(y, 999, -1, -1);
        Check.due("fair(999, 2)", y.fair(999, 2), -2);
        Check.due("fair(999, -1)", y.fair(999, -1), -2);
    }

    // ---- most

    static void promise25_the_first_of_like_ones() {
        String head = "host limit 999 background 998 age 999 pause 1 window 99 chunk 1 queue 1;"
                + "device speed 0;file on 0;";
        WriterPace x = Texts.told(head + "writer to 0 wants 1;".repeat(6));
        Check.due("all alike", x.most(3, 0), 0);
        Check.due("all alike: most", x.most(3, 1), 3);
        Check.due("all alike: fewest", x.most(3, 2), 3);
        for (int w = 0; w < 6; w++) {
            WriterPace y = Texts.told(head + "writer to 0 wants 2;".repeat(6));
            y.wants(w, 3);
            y.wants(5, 3);
            y.wants((w + 1) % 5, 1);
            Check.due("who", y.most(2, 0), w);
            Check.due("most", y.most(2, 1), 6);
            Check.due("fewest", y.most(2, 2), 2);
        }
    }

    static void promise25_n_is_1_to_999() {
        WriterPace x = Texts.told(HEAP);
        Check.due("most(0, 1)", x.most(0, 1), -3);
        Check.due("most(1, 1)", x.most(1, 1), 1);
        Check.due("most(999, 1)", x.most(999, 1), 999);
        Check.due("most(999, 2)", x.most(999, 2), 999);
        Check.due("most(1000, 1)", x.most(1000, 1), -3);
        Check.due("most(1, 3)", x.most(1, 3), -2);
        Check.due("most(1, -1)", x.most(1, -1), -2);
        WriterPace y = Texts.told(Texts.HEAD + "device speed 1;file on 0;");
        for (int what = 0; what <= 2; what++) {
            Check.due("no writers", y.most(1, what), -1);
        }
    }

    static void promise25_pages_before_do_not_count() {
        WriterPace x = Texts.told("host limit 999 background 998 age 999 pause 1 window 99 chunk 1 queue 1;"
                + "device speed 0;file on 0;writer to 0 wants 9;writer to 0 wants 1;");
        x.ticks(10);
        x.wants(0, 0);
        Check.due("who", x.most(5, 0), 1);
        Check.due("most", x.most(5, 1), 5);
        Check.due("fewest", x.most(5, 2), 0);
    }

    // ---- held

    static void promise26_n_is_1_to_999() {
        WriterPace x = Texts.told("host limit 5 background 4 age 999 pause 1 window 99 chunk 1 queue 1;"
                + "device speed 0;file on 0;" + "writer to 0 wants 5;".repeat(6));
        Check.due("held(0)", x.held(0), -3);
        Check.due("the one who comes first is not", x.held(1), 5);
        Check.due("held(999)", x.held(999), 5 + 6 * 998);
        Check.due("held(1000)", x.held(1000), -3);
        x.ticks(3);
        Check.due("before does not count", x.held(1), 6);
        Check.due("none with enough room", Texts.told(HEAP).held(999), 0);
    }

    // ---- enough

    static void promise27_n_is_1_to_99() {
        WriterPace x = Texts.told(HEAP.replace("background 998", "background 0").replace("limit 999", "limit 9"));
        Check.due("enough(0)", x.enough(0), -3);
        Check.due("enough(1)", x.enough(1), 1);
        Check.due("enough(2)", x.enough(2), 2);
        Check.due("enough(99)", x.enough(99), 99);
        Check.due("enough(100)", x.enough(100), -3);
        Check.due("the limit is as it was", x.set(0), 9);
    }

    static void promise27_above_background_and_999_at_most() {
        WriterPace x = Texts.told(HEAP);
        Check.due("just above background", x.enough(1), 999);
        Check.due("just above background", x.enough(99), 999);
        WriterPace y = Texts.told(HEAP.replace("background 998", "background 0").replace("wants 1", "wants 37"));
        Check.due("27 times 37", y.enough(27), 999);
        Check.due("28 times 37: none", y.enough(28), -1);
        WriterPace z = Texts.told(HEAP.replace("background 998", "background 7").replace("wants 1", "wants 0"));
        Check.due("nobody wants any", z.enough(99), 8);
    }

    static void promise27_the_limit_may_be_below_what_there_is() {
        WriterPace x = Texts.told(HEAP.replace("background 998", "background 0"));
        x.ticks(50);
        Check.due("one more page", x.enough(1), 51);
        x.wants(0, 0);
        Check.due("nobody wants any", x.enough(99), 1);
    }

    /** Fast enough that only a limit that is nearly full makes a pause of the first pages. */
    private static String fast(int limit, int window, int wants) {
        return "host limit " + limit + " background 0 age 99 pause 4 window " + window + " chunk 9 queue 9;"
                + "device speed 500;file on 0;writer to 0 wants " + wants + ";";
    }

    static void promise27_the_least_even_if_a_greater_one_is_not_enough() {
        // With 6: a pause of 1 for p is 0, but five are written by tick 3, and there is room for 5.
        // With 7: p 0.875, half 3.5, q 2 by 7, rate 125, pause 4: 1 tick, and there is room for 6.
        // With 8: p 1, q 0.5, rate 250, pause 2: none, and at tick 2 there is room for 2.
        WriterPace x = Texts.told(fast(100, 99, 6));
        Check.due("the least", x.enough(3), 7);
        int[] held = {1, 0, 1};
        for (int i = 0; i < held.length; i++) {
            Check.due("limit " + (6 + i), Texts.told(fast(6 + i, 99, 6)).held(3), held[i]);
        }
        Check.due("as told nobody is held either", x.held(3), 0);
    }

    static void promise27_free_share_and_set_follow_from_the_tried_limit() {
        // FREE as told, 50, or a share as told, 100: no pause, and 12 would be the least.
        Check.due("the share by how many devices", Texts.told(fast(100, 99, 6)).enough(3), 7);
        Check.due("another limit", Texts.told(fast(999, 99, 6)).enough(3), 7);
        // Five pages of 500 in a window of 1: the estimate stays, and the count is 5, then 2.
        WriterPace x = Texts.told(fast(100, 1, 5));
        x.ticks(1);
        x.wants(0, 0);
        x.ticks(2);
        Check.due("all is written", x.count(4), 0);
        Check.due("count", x.device(0, 5), 5);
        Check.due("estimate", x.device(0, 4), 500000);
        x.wants(0, 6);
        Check.due("the share by counts", x.enough(3), 7);
        // With 6: set 4.5, p 26 by 27, q 1 by 3, pause 3: no tick, and at tick 2 there is room for 1.
        // By a set point far above, p were 0, and the pause 4: one tick.
        Check.due("the set point", Texts.told(fast(100, 99, 5).replace("500", "400")).enough(3), 10);
    }

    // ---- bears

    static void promise28_the_greatest_even_if_a_lesser_one_is_too_many() {
        String text = "host limit 10 background 0 age 99 pause 9 window 99 chunk 9 queue 9;"
                + "device speed 999;file on 0;writer to 0 wants 1;";
        // With 10: p is 0, pause 9, LAST 2. With 9: rate 156.6, pause 5, LAST 1. With 8, 7 and 6 the
        // pauses are 2, 1 and 0, LAST is 0, and at tick 2 there is too little room. With 5 there is.
        Check.due("the greatest", Texts.told(text).bears(0, 2), 10);
        int[] held = {0, 1, 1, 1, 0, 0, 1};
        for (int i = 0; i < held.length; i++) {
            WriterPace x = Texts.told(text);
            x.wants(0, 5 + i);
            Check.holds("with " + (5 + i), (x.held(2) > 0) == (held[i] == 1));
        }
    }

    static void promise28_the_greatest_of_0_to_99() {
        WriterPace x = Texts.told(HEAP.replace("background 998", "background 0"));
        Check.due("99", x.bears(0, 1), 99);
        Check.due("ten times 99", x.bears(0, 10), 99);
        Check.due("eleven times 90", x.bears(0, 11), 90);
        Check.due("as told stays", x.writer(0, 1), 1);
        WriterPace y = Texts.told("host limit 98 background 0 age 999 pause 1 window 99 chunk 1 queue 1;"
                + "device speed 0;file on 0;writer to 0 wants 1;");
        Check.due("98", y.bears(0, 1), 98);
        y.wants(0, 98);
        y.ticks(1);
        Check.due("nothing but 0", y.bears(0, 1), 0);
        Check.due("by a law: with none", Texts.told(HEAP.replace("limit 999 background 998", "limit 9 background 0")
                + "wants : 10;").bears(0, 1), -1);
    }

    static void promise28_n_is_1_to_99() {
        WriterPace x = Texts.told(HEAP);
        Check.due("bears(0, 0)", x.bears(0, 0), -3);
        Check.due("bears(0, 1)", x.bears(0, 1), 99);
        Check.due("bears(0, 99)", x.bears(0, 99), 10);
        Check.due("bears(0, 100)", x.bears(0, 100), -3);
        Check.due("bears(1, 1)", x.bears(1, 1), -2);
        Check.due("bears(-1, 1)", x.bears(-1, 1), -2);
    }

    static void promise28_others_may_be_held() {
        WriterPace x = Texts.told("host limit 10 background 0 age 999 pause 1 window 99 chunk 1 queue 1;"
                + "device speed 0;file on 0;writer to 0 wants 8;writer to 0 wants 1;");
        // Tick 1 begins with writer 1: with 10 it is never held, though writer 0 is.
        Check.due("writer 1", x.bears(1, 1), 10);
        Check.due("writer 0", x.bears(0, 1), 9);
    }
}
