/** Promises 11 to 17: ticks, speeds and wants told, undone, judged, performed, drawn. */
public final class DeedsTest {
    private static final String HOST = "host limit 40 background 2 age 6 pause 9 window 5 chunk 3 queue 6;"
            + "device speed 120;device speed 70;file on 0;file on 1;file on 1;"
            + "writer to 0 wants 2;writer to 1 wants 3;writer to 2 wants 1;";

    public static void main(String[] args) {
        toldOnes();
        undoing();
        tenAtMost();
        judging();
        performing();
        edgesOfDeeds();
        loads();
        Check.end();
    }

    private static void toldOnes() {
        WriterPace x = Texts.told(HOST);
        Check.due("speed", x.speed(1, 999), 70);
        Check.due("as told", x.device(1, 0), 999);
        Check.due("the estimate stays", x.device(1, 4), 70000);
        Check.due("the same once more", x.speed(1, 999), 999);
        Check.due("wants", x.wants(2, 99), 1);
        Check.due("as told", x.writer(2, 1), 99);
        Check.due("wants none", x.wants(2, 0), 99);
        Check.due("each can be undone", x.count(8), 4);
        Check.due("no such device", x.speed(2, 5), -11);
        Check.due("no such device", x.speed(-1, 5), -11);
        Check.due("no such number", x.speed(0, 1000), -11);
        Check.due("no such number", x.speed(0, -1), -11);
        Check.due("no such writer", x.wants(3, 5), -11);
        Check.due("no such writer", x.wants(-1, 5), -11);
        Check.due("no such number", x.wants(0, 100), -11);
        Check.due("no such number", x.wants(0, -1), -11);
        Check.due("refused ones change nothing", x.count(8), 4);
    }

    /** A host behind so many of four calls. */
    private static WriterPace done(int calls) {
        WriterPace x = Texts.told(HOST);
        if (calls > 0) {
            x.ticks(30);
        }
        if (calls > 1) {
            x.speed(0, 5);
        }
        if (calls > 2) {
            x.wants(1, 50);
        }
        if (calls > 3) {
            x.ticks(7);
        }
        return x;
    }

    private static void undoing() {
        long[] seen = new long[5];
        for (int i = 0; i < seen.length; i++) {
            seen[i] = Seen.all(done(i));
            Check.holds("call " + i + " did something", i == 0 || seen[i] != seen[i - 1]);
        }
        WriterPace x = done(4);
        Check.due("undo(2)", x.undo(2), 2);
        Check.due("as before", Seen.all(x), seen[2]);
        Check.due("undo(1)", x.undo(1), 1);
        Check.due("as before", Seen.all(x), seen[1]);
        Check.due("undo(2)", x.undo(2), -3);
        Check.due("undo(0)", x.undo(0), -3);
        Check.due("undo(-1)", x.undo(-1), -3);
        Check.due("undo(11)", x.undo(11), -3);
        Check.due("nothing changed", Seen.all(x), seen[1]);
        Check.due("undo(1)", x.undo(1), 0);
        Check.due("as at first", Seen.all(x), seen[0]);
        Check.due("undo(1)", x.undo(1), -3);
    }

    private static void tenAtMost() {
        WriterPace x = Texts.told(HOST);
        for (int i = 1; i <= 13; i++) {
            x.ticks(i);
            Check.due("can be undone", x.count(8), Math.min(10, i));
        }
        Check.due("undo(4)", x.undo(4), 6);
        Check.due("ticks", x.count(3), 45);
        x.ticks(100);
        Check.due("can be undone", x.count(8), 7);
        Check.due("undo(8)", x.undo(8), -3);
        Check.due("undo(7)", x.undo(7), 0);
        Check.due("the eldest are forgotten", x.count(3), 6);
    }

    private static void judging() {
        WriterPace x = Texts.told(HOST);
        x.ticks(3);
        long was = Seen.all(x);
        int later = x.later(8, 0);
        Texts.fill(x, 2, 0, 5, 3);
        Check.due("all can be", x.judge(2, 0), -1);
        Check.due("why", x.judge(2, 1), 0);
        Check.due("all then", x.judge(2, 2), later);
        Check.due("ticks then", x.judge(2, 3), 11);
        Texts.fill(x, 2, 2, 8, 13000, 5);
        Check.due("the first that can't be", x.judge(2, 0), 1);
        Check.due("why", x.judge(2, 1), 1);
        Check.due("all then", x.judge(2, 2), later);
        Check.due("ticks then", x.judge(2, 3), 11);
        Check.due("numbers", x.numbers(3, 0, 0), 0);
        Check.due("no deeds", x.judge(3, 0), -1);
        Check.due("no deeds: all", x.judge(3, 2), x.count(4));
        Check.due("no deeds: ticks", x.judge(3, 3), 3);
        Check.due("judged only", Seen.all(x), was);
        Check.due("nothing to undo but the ticks", x.count(8), 1);
        Check.due("judge(4, 0)", x.judge(4, 0), -2);
        Check.due("judge(-1, 0)", x.judge(-1, 0), -2);
        Check.due("judge(0, 4)", x.judge(0, 4), -2);
        Check.due("judge(0, -1)", x.judge(0, -1), -2);
        Check.due("judge(0, 0)", x.judge(0, 0), -6);
    }

    private static void performing() {
        WriterPace x = Texts.told(HOST);
        WriterPace y = Texts.told(HOST);
        long first = Seen.all(x);
        Texts.fill(x, 0, 1, 4, 10333, 20104, 9, 11007, 2, 14000, 50);
        Check.due("perform", x.perform(0), 6);
        y.ticks(4);
        y.speed(0, 333);
        y.wants(1, 4);
        y.ticks(9);
        y.speed(1, 7);
        y.ticks(2);
        Check.due("as by hand", Seen.all(x), Seen.all(y));
        Check.due("one call", x.count(8), 1);
        Texts.fill(x, 0, 2, 0, 5);
        Check.due("none can be", x.perform(0), 0);
        Check.due("no call that did some", x.count(8), 1);
        x.numbers(1, 3, 0);
        Check.due("no deeds", x.perform(1), 0);
        Check.due("no call that did some", x.count(8), 1);
        Check.due("undone as a whole", x.undo(1), 0);
        Check.due("as at first", Seen.all(x), first);
        Check.due("perform(4)", x.perform(4), -2);
        Check.due("perform(-1)", x.perform(-1), -2);
        Check.due("perform(3)", x.perform(3), -6);
    }

    private static void edgesOfDeeds() {
        WriterPace x = Texts.told("host limit 40 background 2 age 6 pause 9 window 5 chunk 3 queue 6;"
                + "device speed 1;device speed 2;device speed 3;device speed 4;file on 0;"
                + "writer to 0 wants 1;writer to 0 wants 1;writer to 0 wants 1;writer to 0 wants 1;"
                + "writer to 0 wants 1;writer to 0 wants 1;");
        long[] can = {1, 99, 10000, 10999, 11000, 13999, 20000, 20099, 20100, 20599};
        long[] cannot = {0, -1, 100, 9999, 14000, 19999, 20600, Long.MIN_VALUE, Long.MAX_VALUE,
            (1L << 32) + 5, 10000 + (1L << 40), 20000 + (1L << 32), 20000 - (1L << 32)};
        for (long v : can) {
            Texts.fill(x, 0, 3, v);
            Check.due("deed " + v, x.judge(0, 0), -1);
        }
        for (long v : cannot) {
            Texts.fill(x, 0, 3, v);
            Check.due("deed " + v, x.judge(0, 0), 0);
            Check.due("why of " + v, x.judge(0, 1), 1);
        }
        Texts.fill(x, 0, 2, 13999, 20599, 10000, 20000);
        Check.due("perform", x.perform(0), 4);
        Check.due("speed of the last one", x.device(3, 0), 999);
        Check.due("wants of the last one", x.writer(5, 1), 99);
        Check.due("speed of the first one", x.device(0, 0), 0);
        Check.due("wants of the first one", x.writer(0, 1), 0);
    }

    private static int seed;

    private static int draw() {
        seed = 1103515245 * seed + 12345;
        return seed >>> 16;
    }

    /** The load by other calls of the face, deed by deed. */
    private static int loadByHand(WriterPace y, int from, int times) {
        seed = from;
        int could = 0;
        for (int i = 0; i < times; i++) {
            int sort = draw() % 4;
            if (sort < 2) {
                y.ticks(1 + draw() % 9);
                could++;
            } else if (sort == 2) {
                int d = draw() % 4;
                could += y.speed(d, draw() % 1000) == -11 ? 0 : 1;
            } else {
                int w = draw() % 6;
                could += y.wants(w, draw() % 20) == -11 ? 0 : 1;
            }
        }
        return could;
    }

    private static void loads() {
        int[] seeds = {0, 1, -1, 12345, Integer.MIN_VALUE, Integer.MAX_VALUE, 777777};
        for (int from : seeds) {
            WriterPace x = Texts.told(HOST);
            WriterPace y = Texts.told(HOST);
            long first = Seen.all(x);
            Check.due("load by " + from, x.load(from, 20), loadByHand(y, from, 20));
            Check.due("as by hand, seed " + from, Seen.all(x), Seen.all(y));
            Check.due("one call", x.count(8), 1);
            Check.due("undone", x.undo(1), 0);
            Check.due("as at first", Seen.all(x), first);
        }
        WriterPace x = new WriterPace();
        Check.due("load(1, 0)", x.load(1, 0), -3);
        Check.due("load(1, 21)", x.load(1, 21), -3);
        Check.due("load(1, -1)", x.load(1, -1), -3);
        int dry = 0;
        // A load of which nothing could be is no call that did some.
        for (int from = 0; from < 20; from++) {
            int undoable = x.count(8);
            int could = x.load(from, 1);
            dry += could == 0 ? 1 : 0;
            Check.due("undoable", x.count(8), Math.min(10, undoable + could));
        }
        Check.holds("some loads were dry", dry > 0);
    }
}
