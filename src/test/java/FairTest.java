/** Promises 24 to 28: how fair writers are served, who is held, what would be enough. */
public final class FairTest {
    private static final String HEAD = "host limit 10 background 0 age 99 pause 9 window 9 chunk 9 queue 9;"
            + "device speed 0;file on 0;";

    public static void main(String[] args) {
        fair();
        most();
        held();
        enough();
        bears();
        Check.end();
    }

    private static void fraction(WriterPace x, int n, long above, long below) {
        Check.due("fair(" + n + ", 0)", x.fair(n, 0), above);
        Check.due("fair(" + n + ", 1)", x.fair(n, 1), below);
    }

    private static void fair() {
        WriterPace x = Texts.told(HEAD + "writer to 0 wants 1;writer to 0 wants 3;");
        fraction(x, 1, 4, 5);
        x.wants(1, 1);
        fraction(x, 1, 1, 1);
        x.wants(0, 0);
        fraction(x, 1, 1, 2);
        x.wants(1, 0);
        fraction(x, 999, -1, -1);
        Check.due("fair(1, 2)", x.fair(1, 2), -2);
        Check.due("fair(0, -1)", x.fair(0, -1), -2);
        Check.due("fair(0, 0)", x.fair(0, 0), -3);
        Check.due("fair(1000, 0)", x.fair(1000, 0), -3);
        // Pages written before do not count: 2 and 2 now, 6 and 0 before.
        WriterPace y = Texts.told("host limit 99 background 0 age 99 pause 9 window 9 chunk 9 queue 9;"
                + "device speed 0;file on 0;writer to 0 wants 3;writer to 0 wants 0;");
        y.ticks(2);
        y.wants(0, 1);
        y.wants(1, 1);
        fraction(y, 2, 1, 1);
        y.wants(0, 2);
        fraction(y, 1, 9, 10);
        WriterPace z = Texts.told("host limit 999 background 0 age 1 pause 9 window 9 chunk 99 queue 99;"
                + "device speed 999;file on 0;writer to 0 wants 9;writer to 0 wants 1;writer to 0 wants 0;");
        // 360, 40 and 0 pages: 400 times itself by 3 times (129600 and 1600).
        fraction(z, 40, 50, 123);
    }

    private static void most() {
        WriterPace x = Texts.told(HEAD + "writer to 0 wants 1;writer to 0 wants 2;writer to 0 wants 2;");
        Check.due("the first of like ones", x.most(1, 0), 1);
        Check.due("how many", x.most(1, 1), 2);
        Check.due("the fewest", x.most(1, 2), 1);
        x.wants(2, 9);
        // Tick 1 begins with writer 1: 2, then 8 of 9, then none is left.
        Check.due("who", x.most(1, 0), 2);
        Check.due("how many", x.most(1, 1), 8);
        Check.due("the fewest", x.most(1, 2), 0);
        x.ticks(1);
        Check.due("none any more: the first", x.most(9, 0), 0);
        Check.due("none", x.most(9, 1), 0);
        WriterPace y = Texts.told(HEAD + "writer to 0 wants 3;writer to 0 wants 1;writer to 0 wants 2;");
        Check.due("who", y.most(1, 0), 0);
        Check.due("the fewest is neither the first nor the last", y.most(1, 2), 1);
        Check.due("most(0, 3)", x.most(0, 3), -2);
        Check.due("most(1, -1)", x.most(1, -1), -2);
        Check.due("most(0, 0)", x.most(0, 0), -3);
        Check.due("most(1000, 0)", x.most(1000, 0), -3);
    }

    private static void held() {
        WriterPace x = Texts.told("host limit 5 background 4 age 1 pause 1 window 9 chunk 1 queue 1;"
                + "device speed 0;file on 0;writer to 0 wants 9;writer to 0 wants 1;");
        // Tick 1: writer 1 writes 1, writer 0 writes 4 of 9; then both are held in each tick.
        Check.due("held(1)", x.held(1), 1);
        Check.due("held(2)", x.held(2), 3);
        Check.due("held(999)", x.held(999), 1997);
        x.ticks(2);
        Check.due("held before does not count", x.held(1), 2);
        Check.due("held(0)", x.held(0), -3);
        Check.due("held(1000)", x.held(1000), -3);
    }

    private static void enough() {
        WriterPace x = Texts.told(HEAD + "writer to 0 wants 8;");
        Check.due("enough(1)", x.enough(1), 8);
        x.wants(0, 0);
        Check.due("above background", x.enough(9), 1);
        Check.due("the limit is as it was", x.set(0), 10);
        x.wants(0, 99);
        Check.due("enough(1)", x.enough(1), 99);
        x.ticks(1);
        Check.due("nobody is held in a pause", x.enough(1), 1);
        Check.due("enough(0)", x.enough(0), -3);
        Check.due("enough(100)", x.enough(100), -3);
        WriterPace y = Texts.told("host limit 999 background 0 age 99 pause 1 window 9 chunk 9 queue 9;"
                + "device speed 0;file on 0;writer to 0 wants 99;");
        // Eleven tickfuls are too many even for 999; pauses are 0 as yet.
        Check.due("none", y.enough(99), -1);
        y.ticks(1);
        Check.due("what is there counts", y.enough(1), 198);
        // A longest pause of 1 never makes LAST 1: 27 times 37 pages, one behind the other.
        y.undo(1);
        y.wants(0, 37);
        Check.due("the greatest limit", y.enough(27), 999);
        Check.due("beyond it", y.enough(28), -1);
        WriterPace z = Texts.told("host limit 20 background 18 age 1 pause 1 window 9 chunk 9 queue 9;"
                + "device speed 0;file on 0;writer to 0 wants 3;");
        Check.due("the least is above background", z.enough(1), 19);
    }

    private static void bears() {
        WriterPace x = Texts.told(HEAD + "writer to 0 wants 5;writer to 0 wants 4;");
        // Tick 1 begins with writer 1.
        Check.due("behind the other one", x.bears(0, 1), 6);
        Check.due("ahead of the other one", x.bears(1, 1), 10);
        Check.due("as told stays", x.writer(0, 1), 5);
        WriterPace y = Texts.told(HEAD + "writer to 0 wants 5;wants : 50;");
        Check.due("with none", y.bears(0, 1), -1);
        WriterPace z = Texts.told(HEAD + "writer to 0 wants 5;wants : told - 60;");
        Check.due("by the law", z.bears(0, 1), 70);
        WriterPace most = Texts.told("host limit 999 background 0 age 99 pause 9 window 9 chunk 9 queue 9;"
                + "device speed 0;file on 0;writer to 0 wants 0;");
        Check.due("the greatest there is", most.bears(0, 4), 99);
        WriterPace slow = Texts.told("host limit 10 background 0 age 99 pause 1 window 9 chunk 9 queue 9;"
                + "device speed 0;file on 0;writer to 0 wants 5;");
        Check.due("one tick", slow.bears(0, 1), 10);
        Check.due("two ticks", slow.bears(0, 2), 5);
        Check.due("three ticks", slow.bears(0, 3), 3);
        Check.due("99 ticks", slow.bears(0, 99), 0);
        Check.due("bears(2, 0)", x.bears(2, 0), -2);
        Check.due("bears(-1, 1)", x.bears(-1, 1), -2);
        Check.due("bears(0, 0)", x.bears(0, 0), -3);
        Check.due("bears(0, 100)", x.bears(0, 100), -3);
        // Full: it can bear nothing but wanting nothing.
        x.ticks(9);
        Check.due("bears(0, 9)", x.bears(0, 9), 0);
    }
}
