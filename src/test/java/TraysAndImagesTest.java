/** Promises 33, 34, 36, 37, 38: trays, images, counts. */
public final class TraysAndImagesTest {
    private static final String ONE = "host limit 40 background 2 age 6 pause 9 window 5 chunk 3 queue 6;"
            + "device speed 120;device speed 70;file on 0;file on 1;file on 1;"
            + "writer to 0 wants 2;writer to 1 wants 3;writer to 2 wants 1;"
            + "wants : if time > 20 then told + 1 else told end;speed : told + time;";
    private static final String OTHER = "host limit 50 background 3 age 2 pause 5 window 4 chunk 2 queue 3;"
            + "device speed 80;file on 0;writer to 0 wants 2;wants : told * 2;speed : told * 2 + 1;";

    public static void main(String[] args) {
        sorts();
        places();
        images();
        imagesForgetTheUndone();
        imagesOfTheHostWithoutAText();
        counts();
        Check.end();
    }

    private static void cut(WriterPace x, int sort, long v, long due) {
        x.numbers(0, sort, 1);
        Check.due("write " + v + " of sort " + sort, x.write(0, 0, v), due);
    }

    private static void sorts() {
        WriterPace x = new WriterPace();
        cut(x, 0, 127, 127);
        cut(x, 0, 128, -128);
        cut(x, 0, 256, 0);
        cut(x, 0, -129, 127);
        cut(x, 1, 32767, 32767);
        cut(x, 1, 32768, -32768);
        cut(x, 1, 65541, 5);
        cut(x, 2, 2147483647L, 2147483647L);
        cut(x, 2, 2147483648L, -2147483648L);
        cut(x, 2, (1L << 40) + 7, 7);
        cut(x, 3, Long.MIN_VALUE, Long.MIN_VALUE);
        cut(x, 3, Long.MAX_VALUE, Long.MAX_VALUE);
        // A deed of ticks that was cut is what is there.
        x.numbers(1, 0, 1);
        x.write(1, 0, 256 + 9);
        Check.due("nine ticks", x.judge(1, 3), 9);
    }

    private static void places() {
        WriterPace x = new WriterPace();
        Check.due("numbers(4, 0, 0)", x.numbers(4, 0, 0), -2);
        Check.due("numbers(-1, 0, 0)", x.numbers(-1, 0, 0), -2);
        Check.due("numbers(0, 4, 99)", x.numbers(0, 4, 99), -2);
        Check.due("numbers(0, -1, 0)", x.numbers(0, -1, 0), -2);
        Check.due("numbers(0, 0, 41)", x.numbers(0, 0, 41), -3);
        Check.due("numbers(0, 0, -1)", x.numbers(0, 0, -1), -3);
        Check.due("still missing", x.write(0, 0, 1), -6);
        Check.due("numbers(0, 0, 40)", x.numbers(0, 0, 40), 0);
        Check.due("the last place", x.write(0, 39, 5), 5);
        Check.due("no such place", x.write(0, 40, 5), -7);
        Check.due("no such place", x.write(0, -1, 5), -7);
        Check.due("write(4, 0, 1)", x.write(4, 0, 1), -2);
        Check.due("write(-1, 0, 1)", x.write(-1, 0, 1), -2);
        Check.due("all 0 but the last one", x.judge(0, 0), 0);
        for (int i = 0; i < 39; i++) {
            x.write(0, i, 1);
        }
        Check.due("all can be", x.judge(0, 3), 44);
        Check.due("refused: the tray stays", x.numbers(0, 0, 41), -3);
        Check.due("all can be", x.judge(0, 3), 44);
        Check.due("in place of another one", x.numbers(0, 0, 40), 0);
        Check.due("all 0", x.judge(0, 0), 0);
        x.numbers(0, 0, 0);
        Check.due("no places", x.write(0, 0, 1), -7);
        Check.due("another tray is missing", x.write(3, 0, 1), -6);
    }

    private static void images() {
        WriterPace x = Texts.told(ONE);
        x.ticks(17);
        x.speed(1, 200);
        x.wants(0, 6);
        long seen = Seen.all(x);
        Check.due("image(0)", x.image(0), 0);
        Check.due("an image undoes nothing", x.count(8), 3);
        x.ticks(30);
        Check.due("image(1)", x.image(1), 0);
        long later = Seen.all(x);
        Texts.tell(x, OTHER);
        x.ticks(25);
        Check.due("another host", x.set(0), 50);
        x.feed(1, 2, 3, 4, 5);
        Check.due("restore(0)", x.restore(0), 0);
        Check.due("as it was", Seen.all(x), seen);
        Check.due("nothing can be undone", x.count(8), 0);
        Check.due("undo", x.undo(1), -3);
        Check.due("the tape is as it is", x.count(9), 20);
        x.ticks(30);
        Check.due("it goes on alike", Seen.all(x), later);
        Check.due("undone", x.undo(1), 0);
        Check.due("restore(1)", x.restore(1), 0);
        Check.due("as it was", Seen.all(x), later);
        Check.due("restore(0) once more", x.restore(0), 0);
        Check.due("as it was", Seen.all(x), seen);
        Check.due("image(2)", x.image(2), -2);
        Check.due("image(-1)", x.image(-1), -2);
        Check.due("restore(2)", x.restore(2), -2);
        Check.due("restore(-1)", x.restore(-1), -2);
    }

    private static void imagesForgetTheUndone() {
        WriterPace x = Texts.told(ONE);
        x.ticks(5);
        x.image(1);
        x.ticks(5);
        Check.due("restore(0): none was made", x.restore(0), -5);
        Check.due("nothing changed", x.count(8), 2);
        x.restore(1);
        Check.due("count(8)", x.count(8), 0);
        Check.due("count(3)", x.count(3), 5);
        // Faults and trays are no part of an image.
        Texts.tell(x, "host");
        x.numbers(2, 0, 1);
        x.restore(1);
        Check.due("fault", x.fault(0), 2);
        Check.due("place", x.fault(1), 4);
        Check.due("tray", x.write(2, 0, 7), 7);
    }

    private static void imagesOfTheHostWithoutAText() {
        WriterPace x = new WriterPace();
        x.ticks(4);
        x.image(0);
        Texts.tell(x, ONE);
        x.ticks(9);
        x.restore(0);
        Check.due("limit", x.set(0), 100);
        Check.due("devices", x.count(0), 0);
        Check.due("ticks", x.count(3), 4);
        Check.due("lines", x.count(10), 0);
        Check.due("all", x.count(4), 0);
    }

    private static void counts() {
        WriterPace x = Texts.told(ONE);
        x.ticks(8);
        int wrote = 0;
        int flight = 0;
        int dirty = 0;
        for (int d = 0; d < 2; d++) {
            wrote += (int) x.device(d, 7);
            flight += (int) x.device(d, 1);
            dirty += (int) x.device(d, 2);
        }
        int made = x.writer(0, 4) + x.writer(1, 4) + x.writer(2, 4);
        int[] due = {2, 3, 3, 8, dirty + flight, dirty, made, wrote, 1, 0, 11};
        for (int what = 0; what < due.length; what++) {
            Check.due("count(" + what + ")", x.count(what), due[what]);
        }
        Check.due("made is written or there", made, wrote + dirty + flight);
        Check.due("count(11)", x.count(11), -1);
        Check.due("count(-1)", x.count(-1), -1);
        Check.holds("something is going on", wrote > 0 && dirty > 0 && flight > 0);
    }
}
