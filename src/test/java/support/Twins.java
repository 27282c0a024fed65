/**
 * Two objects made alike: one is asked a call, the other one isn't, and then both must tell the same
 * story. Whatever a call changes that it should not is found so, even if only a later call shows it.
 */
final class Twins {
    /** A call on an object. */
    interface Call {
        long on(WriterPace x);
    }

    /** Makes an object by some calls. */
    interface Maker {
        WriterPace make();
    }

    static final String HOST = "host limit 40 background 2 age 6 pause 9 window 5 chunk 3 queue 6;"
            + "device speed 120;device speed 70;file on 0;file on 1;file on 1;"
            + "writer to 0 wants 2;writer to 1 wants 3;writer to 2 wants 1;"
            + "wants : if time > 20 then told + 1 else told end;speed : told + time;";

    private Twins() {
    }

    /**
     * All at once: a host amid its ticks, ten calls to undo, image 0 made, tray 0 with deeds that can
     * be, tray 1 with one that can't, tray 2 without numbers, tray 3 missing, a fault, a tape of 40.
     */
    static WriterPace busy() {
        WriterPace x = new WriterPace();
        Texts.tell(x, HOST);
        x.ticks(9);
        x.image(0);
        for (int i = 0; i < 5; i++) {
            x.ticks(2);
            x.speed(i % 2, 60 + 20 * i);
            x.wants(i % 3, 1 + i);
        }
        Texts.tell(x, "host limit 0");
        fill(x, 0, 2, 7, 10055, 20109, 3);
        fill(x, 1, 3, 4, 2, 14000, 9);
        x.numbers(2, 0, 0);
        x.feed(0x686f7374, 0x20202020, 0x20202020, 0x20202020, 0x20202020);
        x.feed(0x6c696d69, 0x74203920, 0x20202020, 0x20202020, 0x20202023);
        return x;
    }

    /** No text at all, but a tray of each kind. */
    static WriterPace empty() {
        WriterPace x = new WriterPace();
        fill(x, 0, 2, 7, 3);
        fill(x, 1, 3, 4, 10000, 9);
        x.numbers(2, 0, 0);
        return x;
    }

    private static void fill(WriterPace x, int tray, int sort, long... values) {
        x.numbers(tray, sort, values.length);
        for (int i = 0; i < values.length; i++) {
            x.write(tray, i, values[i]);
        }
    }

    /** A refused call: its code, and nothing is changed. */
    static void refused(String call, long code, Maker maker, Call c) {
        WriterPace x = maker.make();
        Check.due(call, c.on(x), code);
        Check.due(call + " is refused and changes nothing", story(x), story(maker.make()));
    }

    /** A call that only asks: it answers, alike when asked twice, and nothing is changed. */
    static void onlyAsks(String call, Maker maker, Call c) {
        WriterPace x = maker.make();
        long answer = c.on(x);
        Check.holds(call + " is answered, not by a code: " + answer, answer >= -1);
        Check.due(call + " once more", c.on(x), answer);
        Check.due(call + " only asks and changes nothing", story(x), story(maker.make()));
    }

    /** All that later calls could show of an object, as one number; the object is worn out by it. */
    static long story(WriterPace x) {
        long sum = Seen.all(x);
        for (int what = 8; what <= 9; what++) {
            sum = 31 * sum + x.count(what);
        }
        for (int what = 0; what <= 1; what++) {
            sum = 31 * sum + x.fault(what);
        }
        for (int tray = 0; tray < 4; tray++) {
            for (int what = 0; what <= 3; what++) {
                sum = 31 * sum + x.judge(tray, what);
            }
            sum = 31 * sum + x.speeds(tray, 0, 0);
        }
        for (int i = 0; i < 10 && x.count(8) > 0; i++) {
            sum = 31 * sum + x.undo(1);
            sum = 31 * sum + x.count(3);
            sum = 31 * sum + x.count(4);
            sum = 31 * sum + x.later(40, 1);
            sum = 31 * sum + x.later(40, 3);
        }
        sum = 31 * sum + x.host(x.count(9));
        sum = 31 * sum + x.fault(1);
        for (int i = 0; i < 2; i++) {
            sum = 31 * sum + x.restore(i);
            sum = 31 * sum + Seen.all(x);
        }
        return sum;
    }
}
