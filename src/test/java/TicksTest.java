/** Promises 6 to 11: what a tick does, reckoned by hand, and what is seen of it. */
public final class TicksTest {
    private static final String PLAIN = "host limit 100 background 0 age 5 pause 9 window 10 chunk 3 queue 4;"
            + "device speed 150;file on 0;writer to 0 wants 2;";

    public static void main(String[] args) {
        devicesWrite();
        windows();
        turns();
        oldOnes();
        heldBack();
        lastStays();
        manyWriters();
        rounds();
        shares();
        wantsLaws();
        speedLaws();
        laterLawsStrike();
        lawsOfAll();
        lawsEndWithTheirHost();
        wrongInputs();
        Check.end();
    }

    private static void devicesWrite() {
        WriterPace x = Texts.told(PLAIN);
        // Behind each tick: written in it, credit, in flight, dirty, age, all.
        int[][] due = {
            {0, 0, 0, 2, 0, 2}, {0, 0, 2, 2, 0, 4}, {1, 50, 3, 2, 0, 5}, {2, 0, 3, 2, 0, 5},
            {1, 50, 4, 2, 0, 6}, {2, 0, 4, 2, 0, 6}, {1, 50, 4, 3, 1, 7}, {2, 0, 4, 3, 2, 7},
            {1, 50, 4, 4, 3, 8}, {2, 0, 4, 4, 4, 8}};
        int wrote = 0;
        for (int i = 0; i < due.length; i++) {
            Check.due("ticks(1)", x.ticks(1), due[i][0]);
            wrote += due[i][0];
            Check.due("credit", x.device(0, 3), due[i][1]);
            Check.due("in flight", x.device(0, 1), due[i][2]);
            Check.due("dirty on it", x.device(0, 2), due[i][3]);
            Check.due("dirty", x.file(0, 1), due[i][3]);
            Check.due("age", x.file(0, 2), due[i][4]);
            Check.due("all", x.count(4), due[i][5]);
            Check.due("all dirty", x.count(5), due[i][3]);
            Check.due("writer wrote", x.writer(0, 4), 2 * (i + 1));
            Check.due("writers wrote", x.count(6), 2 * (i + 1));
            Check.due("device wrote", x.device(0, 7), wrote);
            Check.due("devices wrote", x.count(7), wrote);
            Check.due("tick", x.count(3), i + 1);
        }
        Check.due("not old", x.file(0, 3), 0);
        WriterPace y = Texts.told(PLAIN);
        Check.due("ten at once", y.ticks(10), wrote);
        Check.due("all", y.count(4), 8);
    }

    private static void windows() {
        WriterPace x = Texts.told(PLAIN);
        x.ticks(9);
        Check.due("estimate as told", x.device(0, 4), 150000);
        Check.due("count", x.device(0, 5), 0);
        Check.due("since the last window", x.device(0, 8), 10);
        x.ticks(1);
        Check.due("estimate", x.device(0, 4), 146250);
        Check.due("count", x.device(0, 5), 12);
        Check.due("since the last window", x.device(0, 8), 0);
        Check.due("share", x.device(0, 6), 100);
        x.speed(0, 0);
        Check.due("estimate stays", x.device(0, 4), 146250);
        x.ticks(10);
        Check.due("none written", x.device(0, 7), 12);
        Check.due("estimate of a stuck one", x.device(0, 4), 127968);
        Check.due("count is halved", x.device(0, 5), 6);
        // Nothing in flight and nothing written: the estimate stays, the count does not.
        WriterPace y = Texts.told("host limit 9 background 8 age 9 pause 9 window 2 chunk 3 queue 4;"
                + "device speed 300;file on 0;");
        y.ticks(4);
        Check.due("idle estimate", y.device(0, 4), 300000);
        Check.due("credit of an idle one", y.device(0, 3), 0);
    }

    private static void turns() {
        WriterPace x = Texts.told("host limit 100 background 0 age 99 pause 9 window 10 chunk 1 queue 3;"
                + "device speed 100;device speed 0;file on 0;file on 1;file on 0;file on 0;"
                + "writer to 0 wants 3;writer to 2 wants 1;writer to 3 wants 2;");
        x.ticks(1);
        Check.due("the first time from its first one", x.next(0), 0);
        Check.due("none of the other device", x.next(1), -1);
        x.ticks(1);
        Check.due("one of each", x.file(0, 1) * 100 + x.file(2, 1) * 10 + x.file(3, 1), 513);
        Check.due("round the ring", x.next(0), 0);
        x.ticks(1);
        Check.due("behind the one that was taken", x.next(0), 2);
        Check.due("dirty", x.file(0, 1) * 100 + x.file(2, 1) * 10 + x.file(3, 1), 725);
        x.ticks(1);
        Check.due("on and on", x.next(0), 3);
        x.undo(1);
        Check.due("turns are undone", x.next(0), 2);
        WriterPace y = Texts.told("host limit 100 background 5 age 99 pause 9 window 10 chunk 1 queue 3;"
                + "device speed 100;file on 0;writer to 0 wants 5;");
        y.ticks(1);
        Check.due("not above background", y.next(0), -1);
        y.ticks(1);
        Check.due("nothing pushed in the tick", y.device(0, 1), 0);
        Check.due("above background", y.next(0), 0);
        y.ticks(1);
        Check.due("as there is room", y.device(0, 1), 3);
        Check.due("full, but if it had room", y.next(0), 0);
    }

    private static void oldOnes() {
        WriterPace x = Texts.told("host limit 100 background 99 age 3 pause 9 window 10 chunk 2 queue 3;"
                + "device speed 0;file on 0;file on 0;file on 0;"
                + "writer to 2 wants 1;writer to 1 wants 1;writer to 0 wants 1;"
                + "wants : if writer = 2 and time < 2 then 0 else told end;");
        x.ticks(3);
        Check.due("none is old", x.next(0), -1);
        Check.due("file(1, 3)", x.file(1, 3), 0);
        Check.due("pushed", x.device(0, 1), 0);
        x.ticks(1);
        // Files 1 and 2 are dirty since tick 1, file 0 since tick 2: two of file 1, then its last one.
        Check.due("pushed", x.device(0, 1), 3);
        Check.due("file 0", x.file(0, 1), 3);
        Check.due("file 1", x.file(1, 1), 1);
        Check.due("file 2", x.file(2, 1), 4);
        Check.due("dirty anew", x.file(1, 2), 0);
        Check.due("since the same tick as ever", x.file(2, 2), 3);
        Check.due("old", x.file(2, 3), 1);
        Check.due("not old", x.file(0, 3), 0);
        Check.due("next by age", x.next(0), 2);
        // An old one that is written out in whole is young when it is written to again.
        WriterPace y = Texts.told("host limit 9 background 8 age 1 pause 9 window 9 chunk 9 queue 9;"
                + "device speed 0;file on 0;writer to 0 wants 1;");
        y.ticks(2);
        Check.due("dirty since this tick", y.file(0, 2), 0);
        Check.due("in flight", y.device(0, 1), 1);
        WriterPace z = Texts.told(Texts.HEAD + "device speed 0;file on 0;");
        z.ticks(5);
        Check.due("no dirty pages: no age", z.file(0, 2), -1);
        Check.due("no dirty pages: not old", z.file(0, 3), 0);
    }

    private static void heldBack() {
        WriterPace x = Texts.told("host limit 10 background 0 age 9 pause 50 window 5 chunk 1 queue 1;"
                + "device speed 100;file on 0;writer to 0 wants 8;");
        Check.due("all not above free", x.pause(0, 99), 0);
        x.ticks(1);
        Check.due("last", x.writer(0, 3), 5);
        Check.due("pause", x.writer(0, 2), 5);
        Check.due("held", x.writer(0, 5), 0);
        Check.due("pause(0, 8)", x.pause(0, 8), 20);
        Check.due("pause(0, 1)", x.pause(0, 1), 2);
        Check.due("the longest", x.pause(0, 99), 50);
        x.ticks(1);
        Check.due("in flight", x.device(0, 1), 1);
        Check.due("what is in flight is on it too", x.pause(0, 8), 20);
        x.ticks(1);
        Check.due("pause", x.writer(0, 2), 3);
        Check.due("last stays", x.writer(0, 3), 5);
        x.ticks(3);
        Check.due("pause", x.writer(0, 2), 0);
        Check.due("estimate", x.device(0, 4), 95000);
        Check.due("wrote none in its pause", x.writer(0, 4), 8);
        x.ticks(1);
        Check.due("as far as the limit", x.writer(0, 4), 15);
        Check.due("held once", x.writer(0, 5), 1);
        Check.due("all", x.count(4), 10);
        Check.due("last", x.writer(0, 3), 16);
        Check.due("pause", x.writer(0, 2), 16);
        // At the limit a writer writes none, is held, and has no pause.
        WriterPace y = Texts.told("host limit 5 background 4 age 1 pause 1 window 9 chunk 1 queue 1;"
                + "device speed 0;file on 0;writer to 0 wants 9;");
        y.ticks(3);
        Check.due("held each tick", y.writer(0, 5), 3);
        Check.due("no pause", y.writer(0, 2), 0);
        Check.due("all", y.count(4), 5);
    }

    private static void lastStays() {
        WriterPace x = Texts.told("host limit 10 background 0 age 99 pause 50 window 99 chunk 9 queue 9;"
                + "device speed 900;file on 0;writer to 0 wants 8;");
        // 800 by 357.12: a pause of 2, so that LAST is 0.
        x.ticks(1);
        Check.due("no pause", x.writer(0, 2), 0);
        WriterPace y = Texts.told("host limit 10 background 0 age 99 pause 50 window 99 chunk 9 queue 9;"
                + "device speed 100;file on 0;writer to 0 wants 8;");
        y.ticks(1);
        Check.due("last", y.writer(0, 3), 5);
        y.speed(0, 900);
        y.wants(0, 5);
        y.ticks(5);
        Check.due("all is written", y.count(4), 0);
        y.ticks(1);
        Check.due("all is at free, not above", y.count(4), y.set(7));
        Check.due("pause(0, 5) at free", y.pause(0, 5), 0);
        Check.due("last is as it was", y.writer(0, 3), 5);
        Check.due("no pause", y.writer(0, 2), 0);
    }

    private static void manyWriters() {
        String head = "host limit 10 background 0 age 9 pause 50 window 5 chunk 1 queue 1;"
                + "device speed 100;device speed 100;file on 0;file on 1;writer to 0 wants 8;";
        WriterPace x = Texts.told(head + "writer to 1 wants 0;");
        x.ticks(1);
        // The share is 5 of 10: q is 0 with 8 on it, so the rate is 1.
        Check.due("the longest", x.pause(0, 1), 50);
        WriterPace y = Texts.told(head + "writer to 0 wants 0;");
        WriterPace z = Texts.told("host limit 10 background 0 age 9 pause 50 window 5 chunk 1 queue 1;"
                + "device speed 100;file on 0;file on 0;writer to 0 wants 8;writer to 1 wants 0;writer to 0 wants 0;");
        y.ticks(1);
        z.ticks(1);
        Check.due("not more than the longest", y.pause(0, 1), 50);
        // A third of 39.68 each.
        Check.due("three share the device", z.pause(0, 1), 7);
        Check.due("three share the device", z.pause(2, 2), 15);
    }

    private static void rounds() {
        WriterPace x = Texts.told("host limit 5 background 0 age 99 pause 1 window 99 chunk 1 queue 1;"
                + "device speed 0;file on 0;writer to 0 wants 2;writer to 0 wants 2;writer to 0 wants 2;");
        x.ticks(1);
        // Tick 1 begins with writer 1, so that writer 0 is the last one.
        Check.due("writer 1", x.writer(1, 4), 2);
        Check.due("writer 2", x.writer(2, 4), 2);
        Check.due("writer 0", x.writer(0, 4), 1);
        Check.due("writer 0 held", x.writer(0, 5), 1);
        Check.due("writer 2 held", x.writer(2, 5), 0);
    }

    private static void shares() {
        WriterPace x = Texts.told("host limit 20 background 0 age 1 pause 9 window 4 chunk 9 queue 9;"
                + "device speed 300;device speed 100;device speed 0;file on 0;file on 1;file on 2;"
                + "writer to 0 wants 3;writer to 1 wants 1;");
        for (int d = 0; d < 3; d++) {
            Check.due("all counts are 0", x.device(d, 6), 6);
        }
        x.ticks(4);
        Check.due("count", x.device(0, 5), 6);
        Check.due("count", x.device(1, 5), 2);
        Check.due("share", x.device(0, 6), 15);
        Check.due("share", x.device(1, 6), 5);
        Check.due("1 at least", x.device(2, 6), 1);
        x.ticks(4);
        Check.due("count by 2 and more", x.device(0, 5), 15);
        Check.due("share, rounded down", x.device(1, 6), 5);
    }

    /** What writer 1 wants at tick 1 by a law: time 1, told 7, device 1. */
    private static void wants(String sum, int due) {
        WriterPace x = Texts.told("host limit 999 background 0 age 9 pause 9 window 9 chunk 9 queue 9;"
                + "device speed 0;device speed 0;file on 1;writer to 0 wants 0;writer to 0 wants 7;"
                + "wants : " + sum + ";");
        x.ticks(1);
        Check.due("wants : " + sum, x.writer(1, 4), due);
    }

    private static void wantsLaws() {
        wants("2+3*4", 14);
        wants("(2+3)*4", 20);
        wants("10-3-2", 5);
        wants("10-(3-2)", 9);
        wants("2*3*4-1", 23);
        wants("3-10", 0);
        wants("999", 99);
        wants("99+0", 99);
        wants("told*10+device*5+writer*3+time", 79);
        wants("if time = 1 then 5 else 6 end", 5);
        wants("if not time = 1 then 5 else 6 end", 6);
        wants("if told < 7 then 5 else 6 end", 6);
        wants("if told < 8 then 5 else 6 end", 5);
        wants("if told > 7 then 5 else 6 end", 6);
        wants("if told > 6 then 5 else 6 end", 5);
        wants("if 1=1 or 1=1 and 1=2 then 1 else 2 end", 1);
        wants("if [1=1 or 1=1] and 1=2 then 1 else 2 end", 2);
        wants("if not 1=2 and 1=2 then 1 else 2 end", 2);
        wants("if not [1=2 and 1=2] then 1 else 2 end", 1);
        wants("if 1+1=2*1 then 1 else 2 end*3+1", 4);
        wants("if 1=2 then 1 else if 1=1 then 8 else 9 end end", 8);
        wants("999*999*999-999*999-999-999+5", 6);
        wants("0-999*999*2-999+999*999+999+999+8", 7);
        wants("(0-999)*999*999+999*999+999+999+3", 2);
    }

    private static void speedLaws() {
        String head = "host limit 999 background 0 age 9 pause 9 window 99 chunk 99 queue 99;"
                + "device speed 0;device speed 40;file on 1;writer to 0 wants 9;";
        WriterPace x = Texts.told(head + "wants:99;speed:(told+device*7)*time;");
        x.ticks(2);
        Check.due("in flight", x.device(1, 1), 99);
        Check.due("47 times 3", x.ticks(1), 1);
        Check.due("credit", x.device(1, 3), 41);
        x.speed(1, 993);
        Check.due("999 at most", x.ticks(1), 10);
        Check.due("credit", x.device(1, 3), 40);
        WriterPace y = Texts.told(head + "speed:told-500;");
        y.ticks(9);
        Check.due("0 at least", y.count(7), 0);
        Check.due("no credit", y.device(1, 3), 0);
        // Time is the rest of the tick by 100.
        WriterPace z = Texts.told(head + "wants:if time = 0 then 1 else 0 end;");
        z.ticks(999);
        Check.due("each hundredth tick", z.writer(0, 4), 9);
        z.ticks(1);
        Check.due("the tenth time", z.writer(0, 4), 10);
    }

    private static void laterLawsStrike() {
        WriterPace x = Texts.told("host limit 99 background 0 age 9 pause 9 window 9 "
                + "chunk 9 queue 9;wants:told+1;device speed 0;file on 0;writer to 0 wants 2;wants:told+3;");
        x.ticks(1);
        Check.due("the later law", x.writer(0, 4), 5);
        x.wants(0, 10);
        x.ticks(1);
        Check.due("as told from then on", x.writer(0, 4), 18);
        x.undo(2);
        x.ticks(1);
        Check.due("as told before", x.writer(0, 4), 10);
    }

    private static void lawsOfAll() {
        StringBuilder text = new StringBuilder("host limit 999 background 0 age 9 pause 9 window 99 chunk 99 queue 99;");
        for (int d = 0; d < 4; d++) {
            text.append("device speed ").append(d).append(";file on ").append(d).append(";");
        }
        for (int w = 0; w < 6; w++) {
            text.append("writer to ").append(w % 4).append(" wants ").append(w % 4).append(";");
        }
        WriterPace x = Texts.told(text + "wants:writer*10+told+device+1;speed:device*10+told+3;");
        for (int n = 1; n <= 3; n++) {
            x.ticks(1);
            for (int w = 0; w < 6; w++) {
                Check.due("writer " + w, x.writer(w, 4), n * (w * 10 + w % 4 * 2 + 1));
            }
        }
        for (int d = 0; d < 4; d++) {
            Check.due("credit of " + d, x.device(d, 3), d * 11 + 3);
        }
    }

    private static void lawsEndWithTheirHost() {
        String head = "host limit 999 background 0 age 9 pause 9 window 99 chunk 99 queue 99;"
                + "device speed 200;file on 0;writer to 0 wants 30;";
        WriterPace x = Texts.told(head + "wants:told+1;speed:told+100;");
        x.ticks(3);
        Check.due("by laws", x.count(7) * 1000 + x.count(6), 3093);
        x.image(0);
        Texts.tell(x, head);
        x.ticks(3);
        Check.due("by what is told", x.count(7) * 1000 + x.count(6), 2090);
        Texts.tell(x, head + "wants:told+2;speed:told*2;");
        x.ticks(3);
        Check.due("by other laws", x.count(7) * 1000 + x.count(6), 4096);
        x.later(99, 0);
        x.restore(0);
        x.ticks(99);
        WriterPace y = Texts.told(head + "wants:told+1;speed:told+100;");
        y.ticks(102);
        Check.due("by the laws of the image", Seen.all(x), Seen.all(y));
    }

    private static void wrongInputs() {
        WriterPace x = Texts.told(PLAIN);
        Check.due("device(-1, 0)", x.device(-1, 0), -2);
        Check.due("device(1, 0)", x.device(1, 0), -2);
        Check.due("device(0, -1)", x.device(0, -1), -2);
        Check.due("device(0, 9)", x.device(0, 9), -2);
        Check.due("file(-1, 0)", x.file(-1, 0), -2);
        Check.due("file(1, 0)", x.file(1, 0), -2);
        Check.due("file(0, 4)", x.file(0, 4), -2);
        Check.due("file(0, -1)", x.file(0, -1), -2);
        Check.due("writer(-1, 0)", x.writer(-1, 0), -2);
        Check.due("writer(1, 0)", x.writer(1, 0), -2);
        Check.due("writer(0, 6)", x.writer(0, 6), -2);
        Check.due("writer(0, -1)", x.writer(0, -1), -2);
        Check.due("next(-1)", x.next(-1), -2);
        Check.due("next(1)", x.next(1), -2);
        Check.due("pause(1, 0)", x.pause(1, 0), -2);
        Check.due("pause(0, 0)", x.pause(0, 0), -3);
        Check.due("pause(0, 100)", x.pause(0, 100), -3);
        Check.due("ticks(0)", x.ticks(0), -3);
        Check.due("ticks(1000)", x.ticks(1000), -3);
        Check.due("ticks(-1)", x.ticks(Integer.MIN_VALUE), -3);
        Check.due("no tick was", x.count(3), 0);
        Check.due("nothing to undo", x.count(8), 0);
        Check.due("ticks(999)", x.ticks(999) > 0 ? 1 : 0, 1);
    }
}
