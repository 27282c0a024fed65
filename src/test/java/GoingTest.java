/** Promises 18 to 23: what is seen of ticks that are not done. */
public final class GoingTest {
    private static final String PLAIN = "host limit 100 background 0 age 5 pause 9 window 10 chunk 3 queue 4;"
            + "device speed 150;file on 0;writer to 0 wants 2;";
    /** At tick 2 there are 99 pages in flight and never any more. */
    static final String BURST = "host limit 999 background 0 age 99 pause 9 window 50 chunk 99 queue 99;"
            + "device speed 100;device speed 10;file on 0;writer to 0 wants 0;"
            + "wants : if time = 1 then 99 else 0 end;";

    public static void main(String[] args) {
        later();
        passes();
        oldest();
        drains();
        written();
        starved();
        Check.end();
    }

    private static void later() {
        WriterPace x = Texts.told(PLAIN);
        int[] all = {0, 2, 4, 5, 5, 6, 6, 7, 7, 8, 8};
        int[] wrote = {0, 0, 0, 1, 3, 4, 6, 7, 9, 10, 12};
        for (int n = 0; n <= 10; n++) {
            Check.due("all", x.later(n, 0), all[n]);
            Check.due("devices wrote", x.later(n, 3), wrote[n]);
            Check.due("writers wrote", x.later(n, 4), 2 * n);
        }
        Check.due("dirty", x.later(7, 1), 3);
        Check.due("in flight", x.later(7, 2), 4);
        Check.due("nothing is done", x.count(3) + x.count(4) + x.count(8), 0);
        x.ticks(4);
        Check.due("in these alone", x.later(6, 3), 9);
        Check.due("in these alone", x.later(6, 4), 12);
        Check.due("behind no tick", x.later(0, 0), 5);
        Check.due("behind no tick", x.later(0, 3), 0);
        Check.due("later(999, 4)", x.later(999, 4) > 0 ? 1 : 0, 1);
        Check.due("later(1000, 0)", x.later(1000, 0), -3);
        Check.due("later(-1, 0)", x.later(-1, 0), -3);
        Check.due("later(0, 5)", x.later(0, 5), -2);
        Check.due("later(-1, -1)", x.later(-1, -1), -2);
    }

    private static void passes() {
        WriterPace x = Texts.told(PLAIN);
        int[] due = {1, 1, 2, 2, 3, 5, 7, 9};
        for (int k = 0; k < due.length; k++) {
            Check.due("passes(" + k + ")", x.passes(k), due[k]);
        }
        x.ticks(3);
        Check.due("now", x.passes(4), 0);
        Check.due("not now", x.passes(5), 2);
        Check.due("never above the limit", x.passes(999), -1);
        Check.due("passes(-1)", x.passes(-1), -3);
        Check.due("passes(1000)", x.passes(1000), -3);
        // Fifty pages in a hundred ticks: the 500th at tick 1000. The 999th tick from now counts.
        WriterPace y = Texts.told("host limit 999 background 0 age 99 pause 9 window 9 chunk 1 queue 1;"
                + "device speed 0;file on 0;writer to 0 wants 1;"
                + "wants : if time = 0 or time > 50 then told else 0 end;");
        Check.due("behind 1000", y.passes(499), -1);
        y.ticks(1);
        Check.due("behind 999", y.passes(499), 999);
    }

    private static void oldest() {
        WriterPace x = Texts.told("host limit 100 background 50 age 4 pause 9 window 9 chunk 9 queue 9;"
                + "device speed 900;file on 0;writer to 0 wants 1;");
        Check.due("oldest(1)", x.oldest(1), 0);
        Check.due("oldest(4)", x.oldest(4), 3);
        // At tick 5 they are old and go in flight, in whole.
        Check.due("oldest(9)", x.oldest(9), 3);
        x.ticks(4);
        Check.due("behind each, not now", x.oldest(1), 0);
        Check.due("oldest(0)", x.oldest(0), -3);
        Check.due("oldest(1000)", x.oldest(1000), -3);
        WriterPace y = Texts.told(GoingTest.BURST);
        Check.due("oldest(2)", y.oldest(2), 0);
        y.ticks(2);
        Check.due("none behind any", y.oldest(90), -1);
    }

    private static void drains() {
        WriterPace x = Texts.told(BURST);
        Check.due("nothing there", x.drains(), 0);
        x.ticks(1);
        // One tick goes by until they are in flight.
        Check.due("drains", x.drains(), 100);
        x.ticks(1);
        Check.due("drains", x.drains(), 99);
        x.speed(0, 0);
        Check.due("never", x.drains(), -1);
        x.speed(0, 10);
        Check.due("behind 990", x.drains(), 990);
        x.speed(0, 9);
        Check.due("not behind 999", x.drains(), -1);
        edgeOfDrains();
        // Writers who would write do not.
        WriterPace y = Texts.told(PLAIN);
        y.ticks(7);
        Check.due("drains", y.drains(), 5);
        // Below background pages go when they are old.
        WriterPace z = Texts.told("host limit 100 background 50 age 9 pause 9 window 9 chunk 9 queue 9;"
                + "device speed 100;file on 0;writer to 0 wants 1;");
        z.ticks(1);
        Check.due("drains", z.drains(), 10);
    }

    /** Ten pages in flight at tick 2, a page in a hundred ticks: the tenth behind tick 1002. */
    private static void edgeOfDrains() {
        WriterPace x = Texts.told("host limit 999 background 0 age 99 pause 9 window 50 chunk 99 queue 99;"
                + "device speed 1;file on 0;writer to 0 wants 10;");
        x.ticks(1);
        x.wants(0, 0);
        x.ticks(1);
        Check.due("behind 1000", x.drains(), -1);
        Check.due("behind 1000", x.written(0, 10), -1);
        x.ticks(1);
        Check.due("behind 999", x.drains(), 999);
        Check.due("behind 999", x.written(0, 10), 999);
    }

    private static void written() {
        WriterPace x = Texts.told(BURST);
        Check.due("the first", x.written(0, 1), 3);
        x.ticks(2);
        Check.due("the first", x.written(0, 1), 1);
        Check.due("the 99th", x.written(0, 99), 99);
        Check.due("of the next burst", x.written(0, 100), 101);
        Check.due("the other device", x.written(1, 1), -1);
        x.ticks(10);
        Check.due("more from now on", x.written(0, 5), 5);
        Check.due("not behind 999", x.written(0, 9999), -1);
        Check.due("written(2, 0)", x.written(2, 0), -2);
        Check.due("written(-1, 1)", x.written(-1, 1), -2);
        Check.due("written(0, 0)", x.written(0, 0), -3);
        Check.due("written(0, 10000)", x.written(0, 10000), -3);
    }

    private static void starved() {
        WriterPace x = Texts.told("host limit 100 background 3 age 99 pause 9 window 9 chunk 9 queue 9;"
                + "device speed 0;device speed 0;file on 0;writer to 0 wants 1;");
        // Ticks 1 to 4: above background only when tick 5 begins.
        Check.due("starved(0, 1)", x.starved(0, 1), 1);
        Check.due("starved(0, 3)", x.starved(0, 3), 3);
        Check.due("starved(0, 99)", x.starved(0, 99), 4);
        Check.due("no dirty pages", x.starved(1, 99), 0);
        Check.due("starved(2, 0)", x.starved(2, 0), -2);
        Check.due("starved(-1, 1)", x.starved(-1, 1), -2);
        Check.due("starved(0, 0)", x.starved(0, 0), -3);
        Check.due("starved(0, 1000)", x.starved(0, 1000), -3);
    }
}
