/** Promises 29 to 32 and 35: which speeds fit, spans, stalls. */
public final class WroteAndStallsTest {
    /** Ninety-nine pages in flight at tick 2, and never any more till tick 101. */
    private static final String BURST = "host limit 999 background 0 age 99 pause 9 window 50 chunk 99 queue 99;"
            + "device speed 100;device speed 10;file on 0;writer to 0 wants 0;"
            + "wants : if time = 1 then 99 else 0 end;";

    public static void main(String[] args) {
        speeds(BURST);
        speeds(BURST + "speed : if device = 0 then 5 else 6 end;");
        speedsRefused();
        othersKeepTheLaw();
        busiest();
        lists();
        stalls();
        stallsOfTwo();
        stallsRefused();
        Check.end();
    }

    private static void fit(WriterPace x, int many, int least, int greatest, long... wrote) {
        Texts.fill(x, 1, 1, wrote);
        Check.due("how many", x.speeds(1, 0, 0), many);
        Check.due("the least", x.speeds(1, 0, 1), least);
        Check.due("the greatest", x.speeds(1, 0, 2), greatest);
    }

    private static void speeds(String text) {
        WriterPace x = Texts.told(text);
        x.ticks(2);
        fit(x, 10, 50, 59, 5);
        fit(x, 5, 50, 54, 5, 5);
        fit(x, 10, 0, 9, 0);
        fit(x, 2, 0, 1, 0, 0, 0, 0, 0, 0, 0, 0);
        fit(x, 10, 990, 999, 99);
        fit(x, 0, -1, -1, 100);
        fit(x, 0, -1, -1, 5, 50);
        Texts.fill(x, 2, 3, Long.MAX_VALUE);
        Check.due("far too many", x.speeds(2, 0, 0), 0);
        Check.due("as told stays", x.device(0, 0), 100);
        Check.due("nothing is done", x.count(3), 2);
        // The other device has nothing to write, however fast it is.
        Texts.fill(x, 0, 0, 0, 0);
        Check.due("all speeds", x.speeds(0, 1, 0), 1000);
        Check.due("the least", x.speeds(0, 1, 1), 0);
        Check.due("the greatest", x.speeds(0, 1, 2), 999);
    }

    private static void speedsRefused() {
        WriterPace x = Texts.told(BURST);
        Check.due("no such tray", x.speeds(4, 0, 0), -2);
        Check.due("no such tray", x.speeds(-1, 0, 0), -2);
        Check.due("no such device", x.speeds(0, 2, 0), -2);
        Check.due("no such what", x.speeds(0, 0, 3), -2);
        Check.due("no such what", x.speeds(0, 0, -1), -2);
        Check.due("missing", x.speeds(0, 0, 0), -6);
        x.numbers(0, 0, 0);
        Check.due("no numbers", x.speeds(0, 0, 0), -4);
        x.numbers(0, 0, 9);
        Check.due("nine numbers", x.speeds(0, 0, 0), -4);
        x.write(0, 8, -1);
        Check.due("nine numbers, ahead of one below 0", x.speeds(0, 0, 0), -4);
        x.numbers(0, 0, 8);
        Check.due("eight numbers", x.speeds(0, 0, 0) > 0 ? 1 : 0, 1);
        x.write(0, 7, -1);
        Check.due("one below 0, ahead of none", x.speeds(0, 0, 1), -3);
    }

    private static void othersKeepTheLaw() {
        // Both devices write to the same limit: the other one goes on by the law.
        String text = "host limit 30 background 0 age 99 pause 1 window 5 chunk 3 queue 5;"
                + "device speed 0;device speed 0;file on 0;file on 1;writer to 0 wants 9;writer to 1 wants 9;"
                + "speed : 60 + device * 40;";
        WriterPace x = Texts.told(text);
        x.ticks(7);
        x.numbers(0, 2, 6);
        Check.due("lists", x.lists(0, 0), 6);
        int wrote = x.later(30, 3) * 1000 + x.later(30, 4);
        Check.due("the law's own number fits", x.speeds(0, 0, 1) <= 60 && x.speeds(0, 0, 2) >= 60 ? 1 : 0, 1);
        Check.due("the law is aside for the question alone", x.later(30, 3) * 1000 + x.later(30, 4), wrote);
        x.chance(5, 3, 0);
        Check.due("devices stall for the question alone", x.later(30, 3) * 1000 + x.later(30, 4), wrote);
        x.drains();
        Check.due("writers rest for the question alone", x.later(30, 3) * 1000 + x.later(30, 4), wrote);
        x.enough(99);
        Check.due("the limit is another one for the question alone", x.later(30, 3) * 1000 + x.later(30, 4), wrote);
        x.bears(0, 99);
        Check.due("another one is told for the question alone", x.later(30, 3) * 1000 + x.later(30, 4), wrote);
    }

    private static void busiest() {
        WriterPace x = Texts.told(BURST + "speed : if time > 22 then 200 else told end;");
        x.ticks(2);
        Check.due("the third span", x.busiest(0), 2);
        Check.due("none at all: the first", x.busiest(1), 0);
        WriterPace y = Texts.told(BURST);
        y.ticks(2);
        Check.due("like ones: the first", y.busiest(0), 0);
        // Ticks 93 to 172: the last pages, then from 102 on the next ones.
        y.ticks(90);
        Check.due("the second span is full", y.busiest(0), 1);
        // Only eight spans are looked at.
        WriterPace z = Texts.told(BURST + "speed : if time > 82 then 999 else told * 0 + 9 end;");
        z.ticks(2);
        Check.due("not the ninth", z.busiest(0), 1);
        Check.due("busiest(2)", z.busiest(2), -2);
        Check.due("busiest(-1)", z.busiest(-1), -2);
    }

    private static void lists() {
        WriterPace x = Texts.told(BURST);
        x.numbers(3, 0, 3);
        Check.due("lists", x.lists(3, 0), 3);
        // From tick 1 on: 8 (ticks 3 to 10), 10, 10. As deeds they are ticks.
        Check.due("as many ticks", x.judge(3, 3), 28);
        Check.due("all can be", x.judge(3, 0), -1);
        x.numbers(3, 2, 40);
        Check.due("forty places", x.lists(3, 0), 40);
        Check.due("the last ones of the burst, then the first 0", x.judge(3, 0), firstZero(x));
        x.numbers(3, 1, 0);
        Check.due("no places", x.lists(3, 0), 0);
        Check.due("lists(4, 0)", x.lists(4, 0), -2);
        Check.due("lists(-1, 0)", x.lists(-1, 0), -2);
        Check.due("lists(0, 2)", x.lists(0, 2), -2);
        Check.due("missing", x.lists(0, 0), -6);
        Check.due("nothing is done", x.count(3), 0);
    }

    private static int firstZero(WriterPace x) {
        for (int i = 0; i < 40; i++) {
            if (x.later(10 * i, 3) == x.later(10 * i + 10, 3)) {
                return i;
            }
        }
        return -1;
    }

    private static void likely(WriterPace x, int k, int n, int above, int below) {
        Check.due("chance(" + k + ", " + n + ", 0)", x.chance(k, n, 0), above);
        Check.due("chance(" + k + ", " + n + ", 1)", x.chance(k, n, 1), below);
    }

    private static void mean(WriterPace x, int n, int above, int below) {
        Check.due("mean(" + n + ", 0)", x.mean(n, 0), above);
        Check.due("mean(" + n + ", 1)", x.mean(n, 1), below);
    }

    private static void stalls() {
        WriterPace x = Texts.told(BURST);
        x.ticks(2);
        // 89 pages by nine lots, 99 by lot 0; lot 1 stalls a device with nothing to write.
        likely(x, 89, 1, 0, 1);
        likely(x, 90, 1, 9, 10);
        likely(x, 99, 1, 9, 10);
        likely(x, 100, 1, 1, 1);
        likely(x, 1000, 1, 1, 1);
        likely(x, 80, 2, 81, 100);
        likely(x, 90, 2, 99, 100);
        likely(x, 70, 3, 729, 1000);
        likely(x, 80, 3, 243, 250);
        mean(x, 1, 90, 1);
        mean(x, 2, 81, 1);
        mean(x, 3, 72, 1);
        x.speed(0, 50);
        mean(x, 1, 189, 2);
        mean(x, 2, 90, 1);
        Check.due("nothing is done", x.count(3), 2);
    }

    private static void stallsOfTwo() {
        // Twenty pages in flight on each; ten more ticks write 10 of one, 20 of the other.
        WriterPace x = Texts.told("host limit 999 background 0 age 99 pause 9 window 50 chunk 99 queue 99;"
                + "device speed 100;device speed 200;file on 0;file on 1;writer to 0 wants 20;writer to 1 wants 20;"
                + "wants : if time = 1 then told else 0 end;");
        x.ticks(2);
        // Lot 0: 40 - 20; lot 1: 40 - 10; the eight others: 40 - 30.
        likely(x, 11, 1, 4, 5);
        likely(x, 21, 1, 9, 10);
        likely(x, 31, 1, 1, 1);
        mean(x, 1, 13, 1);
        // Credit that is there stays, but none is added: nothing is written while stalled.
        x.speed(0, 150);
        x.ticks(1);
        Check.due("credit", x.device(0, 3), 50);
        likely(x, 5, 1, 4, 5);
    }

    private static void stallsRefused() {
        WriterPace x = Texts.told(BURST);
        Check.due("chance(0, 0, 2)", x.chance(0, 0, 2), -2);
        Check.due("chance(1, 1, -1)", x.chance(1, 1, -1), -2);
        Check.due("chance(0, 1, 0)", x.chance(0, 1, 0), -3);
        Check.due("chance(1001, 1, 0)", x.chance(1001, 1, 0), -3);
        Check.due("chance(1, 0, 0)", x.chance(1, 0, 0), -3);
        Check.due("chance(1, 4, 0)", x.chance(1, 4, 0), -3);
        Check.due("mean(0, 2)", x.mean(0, 2), -2);
        Check.due("mean(1, -1)", x.mean(1, -1), -2);
        Check.due("mean(0, 0)", x.mean(0, 0), -3);
        Check.due("mean(4, 0)", x.mean(4, 0), -3);
    }
}
