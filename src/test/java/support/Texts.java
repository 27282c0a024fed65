import java.nio.charset.StandardCharsets;

/** Feeds texts to an object, twenty bytes a call. */
final class Texts {
    static final String HEAD = "host limit 9 background 1 age 1 pause 1 window 1 chunk 1 queue 1;";

    private Texts() {
    }

    /** The five ints whose bytes are those of the text from a place on, blanks behind its end. */
    static int[] bytesAt(byte[] text, int from) {
        int[] fed = new int[5];
        for (int i = 0; i < 20; i++) {
            int b = from + i < text.length ? text[from + i] & 255 : 32;
            fed[i / 4] = fed[i / 4] << 8 | b;
        }
        return fed;
    }

    static byte[] bytes(String text) {
        return text.getBytes(StandardCharsets.ISO_8859_1);
    }

    static int tell(WriterPace x, String text) {
        byte[] b = bytes(text);
        for (int at = 0; at < b.length; at += 20) {
            int[] v = bytesAt(b, at);
            x.feed(v[0], v[1], v[2], v[3], v[4]);
        }
        return x.host(b.length);
    }

    static WriterPace told(String text) {
        WriterPace x = new WriterPace();
        int lines = tell(x, text);
        Check.holds("a sound text: " + text, lines > 0);
        return x;
    }

    /** Tells a text that is at fault: the answer, the kind and the place must be as due. */
    static void faulty(String text, int kind, int place) {
        WriterPace x = new WriterPace();
        Check.due("host of <" + text + ">", tell(x, text), -30 - kind);
        Check.due("fault(0) of <" + text + ">", x.fault(0), kind);
        Check.due("fault(1) of <" + text + ">", x.fault(1), place);
    }

    static void sound(String text, int lines) {
        WriterPace x = new WriterPace();
        Check.due("host of <" + text + ">", tell(x, text), lines);
        Check.due("fault(0) of <" + text + ">", x.fault(0), 0);
        Check.due("fault(1) of <" + text + ">", x.fault(1), -1);
    }

    static void fill(WriterPace x, int tray, int sort, long... values) {
        Check.due("numbers(" + tray + ", ..)", x.numbers(tray, sort, values.length), 0);
        for (int i = 0; i < values.length; i++) {
            Check.due("write(" + tray + ", " + i + ", ..)", x.write(tray, i, values[i]), values[i]);
        }
    }
}
