/**
 * Refused calls: each number beyond its bounds on either side, the code, which of several codes is
 * answered, and that nothing is changed. On a busy object, and on one without a text.
 */
public final class RefusedTest {
    private static final int LOW = Integer.MIN_VALUE;
    private static final int HIGH = Integer.MAX_VALUE;

    public static void main(String[] args) throws Exception {
        Sentences.runAll(RefusedTest.class);
    }

    /** A call of one number. */
    interface OfOne {
        long on(WriterPace x, int n);
    }

    private static void busy(String call, long code, Twins.Call c) {
        Twins.refused(call, code, Twins::busy, c);
    }

    private static void empty(String call, long code, Twins.Call c) {
        Twins.refused(call, code, Twins::empty, c);
    }

    /** The numbers just below the least and just above the greatest one, and the farthest ones. */
    private static void beyond(String call, long code, int least, int greatest, OfOne c) {
        for (int n : new int[] {least - 1, greatest + 1, LOW, HIGH, -100, 100000}) {
            busy(call + " of " + n, code, x -> c.on(x, n));
        }
        WriterPace x = Twins.busy();
        Check.holds(call + " of the least, " + least, c.on(x, least) >= -1);
        WriterPace y = Twins.busy();
        Check.holds(call + " of the greatest, " + greatest, c.on(y, greatest) >= -1);
    }

    // ---- the host

    static void promise2_feed_beyond_900_bytes() {
        Twins.Maker full = () -> {
            WriterPace x = new WriterPace();
            Texts.tell(x, Twins.HOST);
            for (int i = 0; i < 45; i++) {
                x.feed(0x20202020, 0x20202020, 0x20202020, 0x20202020, 0x20202020);
            }
            return x;
        };
        Check.due("full", full.make().count(9), 900);
        Twins.refused("feed", -5, full, x -> x.feed(1, 2, 3, 4, 5));
        Twins.refused("feed", -5, full, x -> x.feed(0x20202020, 0x20202020, 0x20202020, 0x20202020, 0x20202020));
    }

    static void promise3_host_of_too_few_or_too_many_bytes() {
        for (int n : new int[] {-1, 41, 60, 900, 901, LOW, HIGH}) {
            busy("host(" + n + ")", -3, x -> x.host(n));
        }
        for (int n : new int[] {-1, 1, LOW, HIGH}) {
            empty("host(" + n + ")", -3, x -> x.host(n));
        }
    }

    static void promise5_set_of_none_such() {
        beyond("set", -2, 0, 7, (x, n) -> x.set(n));
    }

    static void promise6_device_of_none_such() {
        beyond("device", -2, 0, 1, (x, n) -> x.device(n, 0));
        beyond("device what", -2, 0, 8, (x, n) -> x.device(1, n));
        empty("device(0, 0)", -2, x -> x.device(0, 0));
    }

    static void promise7_file_of_none_such() {
        beyond("file", -2, 0, 2, (x, n) -> x.file(n, 1));
        beyond("file what", -2, 0, 3, (x, n) -> x.file(2, n));
        empty("file(0, 0)", -2, x -> x.file(0, 0));
    }

    static void promise8_writer_of_none_such() {
        beyond("writer", -2, 0, 2, (x, n) -> x.writer(n, 1));
        beyond("writer what", -2, 0, 5, (x, n) -> x.writer(2, n));
        empty("writer(0, 0)", -2, x -> x.writer(0, 0));
    }

    static void promise9_next_of_none_such() {
        beyond("next", -2, 0, 1, (x, n) -> x.next(n));
        empty("next(0)", -2, x -> x.next(0));
    }

    static void promise10_pause_of_none_such_and_of_other_numbers() {
        beyond("pause", -2, 0, 2, (x, n) -> x.pause(n, 5));
        beyond("pause x", -3, 1, 99, (x, n) -> x.pause(0, n));
        busy("pause: -2 ahead of -3", -2, x -> x.pause(3, 0));
        busy("pause: -2 ahead of -3", -2, x -> x.pause(-1, 100));
        empty("pause(0, 0)", -2, x -> x.pause(0, 0));
    }

    // ---- deeds

    static void promise11_ticks_of_other_numbers() {
        beyond("ticks", -3, 1, 999, (x, n) -> x.ticks(n));
        empty("ticks(0)", -3, x -> x.ticks(0));
        empty("ticks(1000)", -3, x -> x.ticks(1000));
    }

    static void promise12_speed_of_none_such() {
        beyond("speed of a device", -11, 0, 1, (x, n) -> x.speed(n, 5));
        beyond("speed", -11, 0, 999, (x, n) -> x.speed(1, n));
        busy("speed(2, 1000)", -11, x -> x.speed(2, 1000));
        empty("speed(0, 0)", -11, x -> x.speed(0, 0));
    }

    static void promise13_wants_of_none_such() {
        beyond("wants of a writer", -11, 0, 2, (x, n) -> x.wants(n, 5));
        beyond("wants", -11, 0, 99, (x, n) -> x.wants(2, n));
        busy("wants(3, 100)", -11, x -> x.wants(3, 100));
        empty("wants(0, 0)", -11, x -> x.wants(0, 0));
    }

    static void promise14_undo_of_more_than_can_be() {
        beyond("undo", -3, 1, 10, (x, n) -> x.undo(n));
        empty("undo(1)", -3, x -> x.undo(1));
        empty("undo(0)", -3, x -> x.undo(0));
        Twins.Maker three = () -> {
            WriterPace x = Texts.told(Twins.HOST);
            x.ticks(5);
            x.speed(0, 3);
            x.ticks(5);
            return x;
        };
        Twins.refused("undo(4) of three", -3, three, x -> x.undo(4));
        Twins.refused("undo(10) of three", -3, three, x -> x.undo(10));
        Check.due("undo(3) of three", three.make().undo(3), 0);
    }

    static void promise15_judge_of_none_such_or_missing() {
        beyond("judge what", -2, 0, 3, (x, n) -> x.judge(1, n));
        for (int n : new int[] {-1, 4, LOW, HIGH}) {
            busy("judge(" + n + ", 0)", -2, x -> x.judge(n, 0));
        }
        busy("judge(3, 0)", -6, x -> x.judge(3, 0));
        busy("judge: -2 ahead of -6", -2, x -> x.judge(3, 4));
        busy("judge: -2 ahead of -6", -2, x -> x.judge(3, -1));
    }

    static void promise16_perform_of_none_such_or_missing() {
        for (int n : new int[] {-1, 4, LOW, HIGH}) {
            busy("perform(" + n + ")", -2, x -> x.perform(n));
        }
        busy("perform(3)", -6, x -> x.perform(3));
        empty("perform(3)", -6, x -> x.perform(3));
    }

    static void promise17_load_of_too_few_or_too_many_times() {
        beyond("load", -3, 1, 20, (x, n) -> x.load(7, n));
        empty("load(7, 0)", -3, x -> x.load(7, 0));
        empty("load(7, 21)", -3, x -> x.load(7, 21));
    }

    // ---- going

    static void promise18_later_of_none_such_and_of_other_numbers() {
        beyond("later what", -2, 0, 4, (x, n) -> x.later(5, n));
        beyond("later", -3, 0, 999, (x, n) -> x.later(n, 0));
        busy("later: -2 ahead of -3", -2, x -> x.later(-1, 5));
        busy("later: -2 ahead of -3", -2, x -> x.later(1000, -1));
    }

    static void promise19_passes_of_other_numbers() {
        beyond("passes", -3, 0, 999, (x, n) -> x.passes(n));
        empty("passes: -3 ahead of NONE", -3, x -> x.passes(1000));
        empty("passes: -3 ahead of NONE", -3, x -> x.passes(-1));
    }

    static void promise20_oldest_of_other_numbers() {
        beyond("oldest", -3, 1, 999, (x, n) -> x.oldest(n));
        empty("oldest: -3 ahead of NONE", -3, x -> x.oldest(1000));
        empty("oldest: -3 ahead of NONE", -3, x -> x.oldest(0));
    }

    static void promise22_written_of_none_such_and_of_other_numbers() {
        beyond("written by", -2, 0, 1, (x, n) -> x.written(n, 1));
        beyond("written", -3, 1, 9999, (x, n) -> x.written(0, n));
        busy("written: -2 ahead of -3", -2, x -> x.written(2, 0));
        empty("written(0, 10000)", -2, x -> x.written(0, 10000));
    }

    static void promise23_starved_of_none_such_and_of_other_numbers() {
        beyond("starved", -2, 0, 1, (x, n) -> x.starved(n, 1));
        beyond("starved in", -3, 1, 999, (x, n) -> x.starved(0, n));
        busy("starved: -2 ahead of -3", -2, x -> x.starved(2, 0));
        empty("starved(0, 1000)", -2, x -> x.starved(0, 1000));
    }

    // ---- fair

    static void promise24_fair_of_none_such_and_of_other_numbers() {
        beyond("fair what", -2, 0, 1, (x, n) -> x.fair(5, n));
        beyond("fair", -3, 1, 999, (x, n) -> x.fair(n, 0));
        busy("fair: -2 ahead of -3", -2, x -> x.fair(0, 2));
        empty("fair: -2 ahead of NONE", -2, x -> x.fair(5, 2));
        empty("fair: -3 ahead of NONE", -3, x -> x.fair(1000, 0));
    }

    static void promise25_most_of_none_such_and_of_other_numbers() {
        beyond("most what", -2, 0, 2, (x, n) -> x.most(5, n));
        beyond("most", -3, 1, 999, (x, n) -> x.most(n, 0));
        busy("most: -2 ahead of -3", -2, x -> x.most(0, 3));
        empty("most: -2 ahead of NONE", -2, x -> x.most(5, 3));
        empty("most: -3 ahead of NONE", -3, x -> x.most(1000, 0));
    }

    static void promise26_held_of_other_numbers() {
        beyond("held", -3, 1, 999, (x, n) -> x.held(n));
        empty("held(0)", -3, x -> x.held(0));
        empty("held(1000)", -3, x -> x.held(1000));
    }

    static void promise27_enough_of_other_numbers() {
        beyond("enough", -3, 1, 99, (x, n) -> x.enough(n));
        empty("enough(0)", -3, x -> x.enough(0));
        empty("enough(100)", -3, x -> x.enough(100));
    }

    static void promise28_bears_of_none_such_and_of_other_numbers() {
        beyond("bears", -2, 0, 2, (x, n) -> x.bears(n, 5));
        beyond("bears in", -3, 1, 99, (x, n) -> x.bears(0, n));
        busy("bears: -2 ahead of -3", -2, x -> x.bears(3, 0));
        empty("bears(0, 100)", -2, x -> x.bears(0, 100));
    }

    // ---- wrote

    /** Tray 0 has eight numbers, tray 1 nine, tray 2 none, tray 3 is missing. */
    private static WriterPace spans() {
        WriterPace x = Texts.told(Twins.HOST);
        x.ticks(4);
        x.numbers(0, 1, 8);
        x.numbers(1, 1, 9);
        x.numbers(2, 1, 0);
        return x;
    }

    private static void spans(String call, long code, Twins.Call c) {
        Twins.refused(call, code, RefusedTest::spans, c);
    }

    static void promise29_speeds_of_none_such_or_missing() {
        for (int n : new int[] {-1, 4, LOW, HIGH}) {
            spans("speeds(" + n + ", 0, 0)", -2, x -> x.speeds(n, 0, 0));
        }
        for (int n : new int[] {-1, 2, LOW, HIGH}) {
            spans("speeds(0, " + n + ", 0)", -2, x -> x.speeds(0, n, 0));
        }
        for (int n : new int[] {-1, 3, LOW, HIGH}) {
            spans("speeds(0, 0, " + n + ")", -2, x -> x.speeds(0, 0, n));
        }
        spans("speeds(3, 0, 0)", -6, x -> x.speeds(3, 0, 0));
        spans("speeds: -2 ahead of -6", -2, x -> x.speeds(3, 2, 0));
        spans("speeds: -2 ahead of -6", -2, x -> x.speeds(3, 0, 3));
        spans("speeds: -2 ahead of -4", -2, x -> x.speeds(2, 0, 3));
        empty("speeds without devices", -2, x -> x.speeds(0, 0, 0));
    }

    static void promise29_speeds_of_other_than_1_to_8_numbers() {
        spans("speeds of none", -4, x -> x.speeds(2, 0, 0));
        spans("speeds of none: -4 ahead of NONE", -4, x -> x.speeds(2, 0, 1));
        spans("speeds of nine", -4, x -> x.speeds(1, 0, 0));
        Twins.Maker forty = () -> {
            WriterPace x = spans();
            x.numbers(1, 0, 40);
            x.write(1, 0, -1);
            return x;
        };
        Twins.refused("speeds of forty: -4 ahead of -3", -4, forty, x -> x.speeds(1, 0, 2));
        WriterPace x = spans();
        Check.holds("speeds of eight", x.speeds(0, 0, 0) >= 0);
        x.numbers(0, 3, 1);
        Check.holds("speeds of one", x.speeds(0, 0, 0) >= 0);
    }

    static void promise29_speeds_of_a_number_below_0() {
        for (int place = 0; place < 8; place++) {
            int at = place;
            Twins.Maker below = () -> {
                WriterPace x = spans();
                x.write(0, at, -1);
                return x;
            };
            Twins.refused("speeds, below 0 at " + at, -3, below, x -> x.speeds(0, 0, 0));
            Twins.refused("speeds: -3 ahead of NONE", -3, below, x -> x.speeds(0, 1, 1));
        }
    }

    static void promise30_busiest_of_none_such() {
        beyond("busiest", -2, 0, 1, (x, n) -> x.busiest(n));
        empty("busiest(0)", -2, x -> x.busiest(0));
    }

    // ---- stalls

    static void promise31_chance_of_none_such_and_of_other_numbers() {
        beyond("chance what", -2, 0, 1, (x, n) -> x.chance(9, 1, n));
        beyond("chance k", -3, 1, 1000, (x, n) -> x.chance(n, 1, 0));
        beyond("chance n", -3, 1, 3, (x, n) -> x.chance(9, n, 0));
        busy("chance: -2 ahead of -3", -2, x -> x.chance(0, 1, 2));
        busy("chance: -2 ahead of -3", -2, x -> x.chance(1, 0, -1));
        empty("chance(1001, 1, 0)", -3, x -> x.chance(1001, 1, 0));
        empty("chance(1, 4, 0)", -3, x -> x.chance(1, 4, 0));
    }

    static void promise32_mean_of_none_such_and_of_other_numbers() {
        beyond("mean what", -2, 0, 1, (x, n) -> x.mean(1, n));
        beyond("mean", -3, 1, 3, (x, n) -> x.mean(n, 0));
        busy("mean: -2 ahead of -3", -2, x -> x.mean(0, 2));
        empty("mean(0, 0)", -3, x -> x.mean(0, 0));
        empty("mean(4, 0)", -3, x -> x.mean(4, 0));
    }

    // ---- trays, images

    static void promise33_numbers_of_none_such_and_of_other_numbers() {
        beyond("numbers of a tray", -2, 0, 3, (x, n) -> x.numbers(n, 0, 5));
        beyond("numbers of a sort", -2, 0, 3, (x, n) -> x.numbers(0, n, 5));
        beyond("numbers", -3, 0, 40, (x, n) -> x.numbers(0, 1, n));
        busy("numbers of a missing one stays missing", -3, x -> x.numbers(3, 1, 41));
        busy("numbers: -2 ahead of -3", -2, x -> x.numbers(4, 0, 41));
        busy("numbers: -2 ahead of -3", -2, x -> x.numbers(0, 4, -1));
    }

    static void promise34_write_into_none_such_or_missing() {
        for (int n : new int[] {-1, 4, LOW, HIGH}) {
            busy("write(" + n + ", 0, 5)", -2, x -> x.write(n, 0, 5));
        }
        busy("write(3, 0, 5)", -6, x -> x.write(3, 0, 5));
        beyond("write", -7, 0, 3, (x, n) -> x.write(0, n, 5));
        busy("write into a tray of no numbers", -7, x -> x.write(2, 0, 5));
        busy("write: -2 ahead of -7", -2, x -> x.write(4, -1, 5));
        busy("write: -6 ahead of -7", -6, x -> x.write(3, -1, 5));
    }

    static void promise35_lists_of_none_such_or_missing() {
        for (int n : new int[] {-1, 4, LOW, HIGH}) {
            busy("lists(" + n + ", 0)", -2, x -> x.lists(n, 0));
        }
        for (int n : new int[] {-1, 2, LOW, HIGH}) {
            busy("lists(0, " + n + ")", -2, x -> x.lists(0, n));
        }
        busy("lists(3, 0)", -6, x -> x.lists(3, 0));
        busy("lists: -2 ahead of -6", -2, x -> x.lists(3, 2));
        empty("lists(3, 0)", -2, x -> x.lists(3, 0));
    }

    static void promise36_image_of_none_such() {
        beyond("image", -2, 0, 1, (x, n) -> x.image(n));
    }

    static void promise37_restore_of_none_such_or_not_made() {
        for (int n : new int[] {-1, 2, LOW, HIGH}) {
            busy("restore(" + n + ")", -2, x -> x.restore(n));
        }
        busy("restore(1)", -5, x -> x.restore(1));
        empty("restore(0)", -5, x -> x.restore(0));
    }

    // ---- what only asks

    static void term_calls_that_only_ask_change_nothing() {
        Twins.Maker maker = Twins::busy;
        Twins.onlyAsks("fault", maker, x -> x.fault(0));
        Twins.onlyAsks("fault of none such", maker, x -> x.fault(2));
        Twins.onlyAsks("set", maker, x -> x.set(7));
        Twins.onlyAsks("device", maker, x -> x.device(1, 4));
        Twins.onlyAsks("file", maker, x -> x.file(1, 3));
        Twins.onlyAsks("writer", maker, x -> x.writer(1, 3));
        Twins.onlyAsks("next", maker, x -> x.next(1));
        Twins.onlyAsks("pause", maker, x -> x.pause(1, 99));
        for (int what = 0; what <= 3; what++) {
            int w = what;
            Twins.onlyAsks("judge", maker, x -> x.judge(0, w));
            Twins.onlyAsks("judge", maker, x -> x.judge(1, w));
            Twins.onlyAsks("judge", maker, x -> x.judge(2, w));
        }
        Twins.onlyAsks("count", maker, x -> x.count(8));
        Twins.onlyAsks("count of none such", maker, x -> x.count(11));
    }

    static void term_calls_of_going_change_nothing() {
        Twins.Maker maker = Twins::busy;
        Twins.onlyAsks("later", maker, x -> x.later(999, 0));
        Twins.onlyAsks("passes", maker, x -> x.passes(999));
        Twins.onlyAsks("oldest", maker, x -> x.oldest(999));
        Twins.onlyAsks("drains", maker, x -> x.drains());
        Twins.onlyAsks("written", maker, x -> x.written(0, 9999));
        Twins.onlyAsks("starved", maker, x -> x.starved(1, 999));
        Twins.onlyAsks("fair", maker, x -> x.fair(999, 0));
        Twins.onlyAsks("most", maker, x -> x.most(999, 0));
        Twins.onlyAsks("held", maker, x -> x.held(999));
        Twins.onlyAsks("enough", maker, x -> x.enough(99));
        Twins.onlyAsks("bears", maker, x -> x.bears(2, 99));
        Twins.onlyAsks("speeds", RefusedTest::spans, x -> x.speeds(0, 1, 0));
        Twins.onlyAsks("busiest", maker, x -> x.busiest(1));
        Twins.onlyAsks("chance", maker, x -> x.chance(9, 3, 0));
        Twins.onlyAsks("mean", maker, x -> x.mean(3, 0));
    }
}
