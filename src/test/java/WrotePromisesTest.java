/** Promises 29 to 32 at their bounds: spans, speeds that fit, stalls. */
public final class WrotePromisesTest {
    /** Behind two ticks 99 pages are in flight, and nobody writes till tick 101. */
    private static final String BURST = "host limit 999 background 0 age 99 pause 9 window 50 chunk 99 queue 99;"
            + "device speed 100;device speed 10;file on 0;writer to 0 wants 99;"
            + "wants : if time = 1 then told else 0 end;";
    /** Behind two ticks ten pages are in flight on each of four devices. */
    private static final String FOUR = "host limit 999 background 0 age 99 pause 9 window 50 chunk 99 queue 99;"
            + "device speed 100;device speed 100;device speed 100;device speed 100;"
            + "file on 0;file on 1;file on 2;file on 3;"
            + "writer to 0 wants 10;writer to 1 wants 10;writer to 2 wants 10;writer to 3 wants 10;"
            + "wants : if time = 1 then told else 0 end;";

    public static void main(String[] args) throws Exception {
        Sentences.runAll(WrotePromisesTest.class);
    }

    private static WriterPace burst(String lines) {
        WriterPace x = Texts.told(BURST + lines);
        x.ticks(2);
        return x;
    }

    // ---- speeds

    private static void fit(WriterPace x, int d, int many, int least, int greatest, long... wrote) {
        Texts.fill(x, 1, 3, wrote);
        Check.due("how many", x.speeds(1, d, 0), many);
        Check.due("the least", x.speeds(1, d, 1), least);
        Check.due("the greatest", x.speeds(1, d, 2), greatest);
    }

    static void promise29_from_the_least_to_the_greatest_speed() {
        WriterPace x = burst("");
        fit(x, 0, 10, 0, 9, 0);
        fit(x, 0, 10, 10, 19, 1);
        fit(x, 0, 10, 990, 999, 99);
        fit(x, 0, 0, -1, -1, 100);
        fit(x, 1, 1000, 0, 999, 0);
        fit(x, 1, 0, -1, -1, 1);
    }

    static void promise29_one_to_eight_numbers() {
        WriterPace x = burst("");
        // A speed of v brings 10 v of credit in each span.
        fit(x, 0, 10, 10, 19, 1);
        fit(x, 0, 5, 10, 14, 1, 1);
        fit(x, 0, 2, 10, 11, 1, 1, 1, 1, 1, 1, 1, 1);
        fit(x, 0, 1, 12, 12, 1, 1, 1, 1, 2, 1, 1, 1);
        fit(x, 0, 2, 0, 1, 0, 0, 0, 0, 0, 0, 0, 0);
        fit(x, 0, 0, -1, -1, 1, 1, 1, 1, 1, 1, 1, 9);
        x.numbers(1, 0, 0);
        Check.due("no numbers", x.speeds(1, 0, 0), -4);
        x.numbers(1, 0, 9);
        Check.due("nine numbers", x.speeds(1, 0, 0), -4);
    }

    /** Two pages at a time go in flight, and the credit that is left behind them is lost. */
    private static WriterPace inPairs() {
        WriterPace x = Texts.told("host limit 20 background 1 age 3 pause 1 window 10 chunk 2 queue 2;"
                + "device speed 0;file on 0;writer to 0 wants 1;");
        x.ticks(2);
        return x;
    }

    static void promise29_speeds_with_others_between_them() {
        int many = 0;
        int least = -1;
        int greatest = -1;
        for (int v = 0; v <= 999; v++) {
            WriterPace y = inPairs();
            y.speed(0, v);
            if (y.later(10, 3) == 9) {
                many++;
                least = least < 0 ? v : least;
                greatest = v;
            }
        }
        Check.due("told one by one: how many", many, 90);
        Check.due("told one by one: the least", least, 100);
        Check.due("told one by one: the greatest", greatest, 199);
        fit(inPairs(), 0, 90, 100, 199, 9);
    }

    static void promise29_a_number_of_64_bits_is_not_cut() {
        WriterPace x = burst("");
        fit(x, 0, 0, -1, -1, (1L << 32) + 5);
        fit(x, 0, 0, -1, -1, Long.MAX_VALUE);
        fit(x, 0, 10, 50, 59, 5);
        x.write(1, 0, Long.MIN_VALUE);
        Check.due("below 0", x.speeds(1, 0, 0), -3);
        x.write(1, 0, -1);
        Check.due("below 0", x.speeds(1, 0, 0), -3);
        x.write(1, 0, 0);
        Check.due("0", x.speeds(1, 0, 0), 10);
    }

    static void promise29_the_law_is_aside_for_that_device_alone() {
        WriterPace x = burst("speed : 0;");
        fit(x, 0, 10, 50, 59, 5);
        Check.due("by the law it writes none", x.later(10, 3), 0);
        // Both write to one limit, and the other one is as fast as the law tells it.
        String text = "host limit 20 background 0 age 99 pause 1 window 99 chunk 9 queue 9;"
                + "device speed 0;device speed 0;file on 0;file on 1;writer to 0 wants 9;writer to 1 wants 9;";
        WriterPace y = Texts.told(text + "speed : 100 + device * 300;");
        WriterPace z = Texts.told(text);
        z.speed(0, 100);
        z.speed(1, 400);
        y.ticks(5);
        z.ticks(5);
        y.numbers(0, 0, 8);
        z.numbers(0, 0, 8);
        y.lists(0, 0);
        z.lists(0, 0);
        for (int what = 0; what <= 2; what++) {
            Check.due("as without a law", y.speeds(0, 0, what), z.speeds(0, 0, what));
        }
        Check.holds("100 is among them", y.speeds(0, 0, 1) <= 100 && y.speeds(0, 0, 2) >= 100);
    }

    // ---- busiest

    static void promise30_eight_spans_the_first_of_like_ones() {
        Check.due("all alike", burst("").busiest(0), 0);
        Check.due("none at all", burst("").busiest(1), 0);
        for (int span = 0; span <= 8; span++) {
            // Two pages in each tick of one span, else one in two ticks.
            WriterPace x = burst("speed : if time > " + (2 + 10 * span) + " and time < " + (13 + 10 * span)
                    + " then 200 else 50 end;");
            Check.due("the fastest span " + span, x.busiest(0), span < 8 ? span : 0);
        }
        WriterPace one = burst("speed : if time = 25 then 100 else 0 end;");
        Check.due("one page alone", one.busiest(0), 2);
        WriterPace y = burst("speed : if time > 32 and time < 53 then 150 else 50 end;");
        Check.due("two alike", y.busiest(0), 3);
        Check.due("busiest(2)", y.busiest(2), -2);
        Check.due("busiest(-1)", y.busiest(-1), -2);
    }

    // ---- chance, mean

    private static void likely(WriterPace x, int k, int n, int above, int below) {
        Check.due("chance(" + k + ", " + n + ", 0)", x.chance(k, n, 0), above);
        Check.due("chance(" + k + ", " + n + ", 1)", x.chance(k, n, 1), below);
    }

    private static void onTheMean(WriterPace x, int n, int above, int below) {
        Check.due("mean(" + n + ", 0)", x.mean(n, 0), above);
        Check.due("mean(" + n + ", 1)", x.mean(n, 1), below);
    }

    static void promise31_k_is_1_to_1000() {
        WriterPace x = burst("");
        x.speed(0, 0);
        Check.due("chance(0, 1, 0)", x.chance(0, 1, 0), -3);
        likely(x, 1, 1, 0, 1);
        likely(x, 99, 1, 0, 1);
        likely(x, 100, 1, 1, 1);
        likely(x, 1000, 1, 1, 1);
        Check.due("chance(1001, 1, 0)", x.chance(1001, 1, 0), -3);
        WriterPace y = new WriterPace();
        likely(y, 1, 1, 1, 1);
        // The limit is full: 999 is below 1000, not below 999.
        WriterPace z = Texts.told("host limit 999 background 998 age 999 pause 1 window 99 chunk 1 queue 1;"
                + "device speed 0;file on 0;writer to 0 wants 99;");
        z.ticks(20);
        likely(z, 999, 3, 0, 1);
        likely(z, 1000, 3, 1, 1);
    }

    static void promise31_one_to_three_spans_of_four_devices() {
        WriterPace x = Texts.told(FOUR);
        x.ticks(2);
        Check.due("in flight", x.later(0, 2), 40);
        Check.due("chance(1, 0, 0)", x.chance(1, 0, 0), -3);
        // Lots 0 to 3 leave ten pages, the six others none.
        likely(x, 1, 1, 3, 5);
        likely(x, 10, 1, 3, 5);
        likely(x, 11, 1, 1, 1);
        // Ten are left if one device stalls in each span.
        likely(x, 1, 2, 24, 25);
        likely(x, 1, 3, 249, 250);
        likely(x, 11, 3, 1, 1);
        Check.due("chance(1, 4, 0)", x.chance(1, 4, 0), -3);
    }

    static void promise31_the_lots_of_each_span_are_their_own() {
        // Device 0 alone has pages, 99 of them, ten a span.
        WriterPace x = burst("");
        likely(x, 70, 3, 729, 1000);
        likely(x, 80, 3, 243, 250);
        likely(x, 90, 3, 999, 1000);
        likely(x, 100, 3, 1, 1);
    }

    static void promise32_one_to_three_spans() {
        WriterPace x = Texts.told(FOUR);
        x.ticks(2);
        Check.due("mean(0, 0)", x.mean(0, 0), -3);
        onTheMean(x, 1, 4, 1);
        onTheMean(x, 2, 2, 5);
        onTheMean(x, 3, 1, 25);
        Check.due("mean(4, 0)", x.mean(4, 0), -3);
        WriterPace y = new WriterPace();
        onTheMean(y, 3, 0, 1);
        WriterPace z = burst("");
        z.speed(0, 0);
        onTheMean(z, 3, 99, 1);
        z.speed(0, 50);
        onTheMean(z, 1, 189, 2);
    }

    static void term_stalled_devices_get_no_credit_and_others_do() {
        WriterPace x = Texts.told(FOUR);
        x.ticks(2);
        x.speed(1, 150);
        x.ticks(1);
        Check.due("credit", x.device(1, 3), 50);
        // Nine of each are in flight. In a span each one that is not stalled writes all of them; one
        // that is stalled writes none, whatever credit it has.
        likely(x, 1, 1, 3, 5);
        likely(x, 9, 1, 3, 5);
        likely(x, 10, 1, 1, 1);
        onTheMean(x, 1, 18, 5);
    }

    static void term_stalls_stand_ahead_of_the_law() {
        WriterPace x = burst("speed : 100;");
        likely(x, 90, 1, 9, 10);
        onTheMean(x, 1, 90, 1);
    }

    static void term_spans_are_ten_ticks_each() {
        WriterPace x = burst("speed : if time = 12 or time = 13 then 100 else 0 end;");
        x.numbers(0, 2, 3);
        Check.due("lists", x.lists(0, 0), 3);
        // Tick 12 is the last one of the first span, tick 13 the first one of the second.
        Check.due("the first place that is no deed", x.judge(0, 0), 2);
        Check.due("one page in each", x.judge(0, 3), 4);
    }
}
