/** Promise 1, and the host without a text (promise 5), seen by every call. */
public final class NewObjectTest {
    public static void main(String[] args) {
        WriterPace x = new WriterPace();
        Check.due("NONE", WriterPace.NONE, -1);
        for (int what = 0; what <= 10; what++) {
            Check.due("count(" + what + ")", x.count(what), 0);
        }
        int[] set = {100, 10, 30, 20, 10, 4, 8, 55};
        for (int what = 0; what < set.length; what++) {
            Check.due("set(" + what + ")", x.set(what), set[what]);
        }
        Check.due("set(-1)", x.set(-1), -2);
        Check.due("set(8)", x.set(8), -2);
        Check.due("fault(0)", x.fault(0), 0);
        Check.due("fault(1)", x.fault(1), -1);
        nothingThere(x);
        goesOnWithNothing(x);
        Check.end();
    }

    private static void nothingThere(WriterPace x) {
        Check.due("device", x.device(0, 0), -2);
        Check.due("file", x.file(0, 0), -2);
        Check.due("writer", x.writer(0, 0), -2);
        Check.due("next", x.next(0), -2);
        Check.due("pause", x.pause(0, 1), -2);
        Check.due("speed", x.speed(0, 0), -11);
        Check.due("wants", x.wants(0, 0), -11);
        Check.due("undo", x.undo(1), -3);
        for (int tray = 0; tray < 4; tray++) {
            Check.due("judge", x.judge(tray, 0), -6);
            Check.due("perform", x.perform(tray), -6);
            Check.due("write", x.write(tray, 0, 5), -6);
        }
        Check.due("restore(0)", x.restore(0), -5);
        Check.due("restore(1)", x.restore(1), -5);
        Check.due("written", x.written(0, 1), -2);
        Check.due("starved", x.starved(0, 1), -2);
        Check.due("bears", x.bears(0, 1), -2);
        Check.due("busiest", x.busiest(0), -2);
        Check.due("speeds", x.speeds(0, 0, 0), -2);
        Check.due("lists", x.lists(0, 0), -2);
    }

    private static void goesOnWithNothing(WriterPace x) {
        Check.due("ticks(999)", x.ticks(999), 0);
        Check.due("count(3)", x.count(3), 999);
        Check.due("later", x.later(999, 0), 0);
        Check.due("passes", x.passes(0), -1);
        Check.due("oldest", x.oldest(999), -1);
        Check.due("drains", x.drains(), 0);
        Check.due("fair", x.fair(9, 0), -1);
        for (int what = 0; what < 3; what++) {
            Check.due("most", x.most(9, what), -1);
        }
        Check.due("held", x.held(999), 0);
        Check.due("enough", x.enough(99), 11);
        Check.due("chance above", x.chance(1, 3, 0), 1);
        Check.due("chance below", x.chance(1, 3, 1), 1);
        Check.due("mean above", x.mean(3, 0), 0);
        Check.due("mean below", x.mean(3, 1), 1);
        // Seed 0 draws deeds of devices and writers too, which can't be without any.
        Check.due("load", x.load(0, 20), loadOfTicks(0, 20));
    }

    private static int loadOfTicks(int seed, int times) {
        int x = seed;
        int ticks = 0;
        for (int i = 0; i < times; i++) {
            x = 1103515245 * x + 12345;
            int draws = (x >>> 16) % 4 < 2 ? 1 : 2;
            ticks += draws == 1 ? 1 : 0;
            for (int k = 0; k < draws; k++) {
                x = 1103515245 * x + 12345;
            }
        }
        return ticks;
    }
}
