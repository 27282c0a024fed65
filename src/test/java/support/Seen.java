/** Looks at an object through every call that only looks. */
final class Seen {
    private Seen() {
    }

    /** All that can be seen of an object, as one number. */
    static long all(WriterPace x) {
        long sum = 17;
        for (int what = 0; what <= 7; what++) {
            sum = 31 * sum + x.count(what);
        }
        sum = 31 * sum + x.count(10);
        for (int what = 0; what <= 7; what++) {
            sum = 31 * sum + x.set(what);
        }
        int devices = x.count(0);
        int files = x.count(1);
        int writers = x.count(2);
        for (int d = 0; d < devices; d++) {
            for (int what = 0; what <= 8; what++) {
                sum = 31 * sum + x.device(d, what);
            }
            sum = 31 * sum + x.next(d);
        }
        for (int f = 0; f < files; f++) {
            for (int what = 0; what <= 3; what++) {
                sum = 31 * sum + x.file(f, what);
            }
        }
        for (int w = 0; w < writers; w++) {
            for (int what = 0; what <= 5; what++) {
                sum = 31 * sum + x.writer(w, what);
            }
        }
        return 31 * sum + x.later(60, 0);
    }
}
