import java.util.Random;

/** Promises 2 to 5: the tape, the host's text, its faults, what it set. */
public final class HostTextTest {
    private static final String H = Texts.HEAD;
    private static final String DEVICE = H + "device speed 1;";
    private static final String FILE = DEVICE + "file on 0;";

    public static void main(String[] args) {
        tape();
        lines();
        tokens();
        heads();
        things();
        tooMany();
        laws();
        depths();
        faultsStay();
        randomTexts();
        Check.end();
    }

    private static void tape() {
        WriterPace x = new WriterPace();
        for (int i = 1; i <= 45; i++) {
            Check.due("feed", x.feed(0x686f7374, 0, 0, 0, 0), 20 * i);
        }
        Check.due("feed beyond 900", x.feed(0, 0, 0, 0, 0), -5);
        Check.due("bytes", x.count(9), 900);
        Check.due("host(901)", x.host(901), -3);
        Check.due("host(-1)", x.host(-1), -3);
        Check.due("the tape stays", x.count(9), 900);
        Check.due("not read: no fault", x.fault(0), 0);
        Check.due("the highest byte first, then a 0", x.host(5), -31);
        Check.due("its place", x.fault(1), 4);
        Check.due("the tape is empty", x.count(9), 0);
        Check.due("host of nothing", x.host(0), -32);
        Check.due("its place", x.fault(1), 0);
        Check.due("host(1) of nothing", x.host(1), -3);
        Check.due("fault(2)", x.fault(2), -1);
        Check.due("fault(-1)", x.fault(-1), -1);
    }

    private static void lines() {
        Texts.sound(H, 1);
        Texts.sound(FILE + "writer to 0 wants 99;wants:1;speed:2;wants:3;", 7);
        WriterPace x = Texts.told("host limit 999 background 998 age 2 pause 3 window 4 chunk 99 queue 98;"
                + "device speed 999;device speed 0;file on 1;file on 0;file on 1;writer to 2 wants 0;");
        int[] set = {999, 998, 2, 3, 4, 99, 98, 998};
        for (int what = 0; what < set.length; what++) {
            Check.due("set(" + what + ")", x.set(what), set[what]);
        }
        Check.due("devices", x.count(0), 2);
        Check.due("files", x.count(1), 3);
        Check.due("writers", x.count(2), 1);
        Check.due("lines", x.count(10), 7);
        Check.due("speed told", x.device(0, 0), 999);
        Check.due("estimate", x.device(0, 4), 999000);
        for (int what : new int[] {1, 2, 3, 5, 7, 8}) {
            Check.due("at first", x.device(0, what), 0);
        }
        for (int what = 2; what <= 5; what++) {
            Check.due("at first", x.writer(0, what), 0);
        }
        Check.due("device of a file", x.file(2, 0), 1);
        Check.due("file of a writer", x.writer(0, 0), 2);
        Check.due("a device too many", x.device(2, 0), -2);
    }

    private static void tokens() {
        Texts.sound("host\nlimit9background1age1pause1window1chunk1queue1;device speed007\n;", 2);
        Texts.sound("\n  " + H + "  \n", 1);
        Texts.faulty("", 2, 0);
        Texts.faulty("   ", 2, 3);
        Texts.faulty("Host", 1, 0);
        Texts.faulty("\thost", 1, 0);
        Texts.faulty("hostlimit 9", 2, 0);
        Texts.faulty("host limit 1000", 1, 11);
        Texts.faulty("host 1000", 1, 5);
        Texts.faulty("host 100", 2, 5);
        Texts.faulty("host limit 0 0009", 3, 11);
        Texts.faulty("host limit 9 \u00e9", 1, 13);
        Texts.faulty(H + "#", 1, 65);
        Texts.faulty(H + "device ,", 1, 72);
        Texts.faulty(H.substring(0, 64) + "  ", 2, 66);
        Texts.faulty(H + ";", 2, 65);
        Texts.faulty(H + "5;", 2, 65);
        Texts.faulty(H + "unknown;", 2, 65);
        Texts.faulty(H + "az;", 2, 65);
        Texts.faulty(H + "`;", 1, 65);
        Texts.faulty(H + "{;", 1, 65);
        Texts.faulty(H + "/;", 1, 65);
    }

    private static void heads() {
        Texts.faulty("device speed 1;", 2, 0);
        Texts.faulty("host;", 2, 4);
        Texts.faulty("host background 1", 2, 5);
        Texts.faulty(H + H, 2, 65);
        Texts.faulty("host limit 9 background 9;", 3, 24);
        Texts.faulty("host limit 1 background 1;", 3, 24);
        String[] parts = {"limit 1", "background 0", "age 1", "pause 1", "window 1", "chunk 1", "queue 1"};
        String[] low = {"limit 0", "", "age 0", "pause 0", "window 0", "chunk 0", "queue 0"};
        String[] high = {"", "background 1", "", "", "", "chunk 100", "queue 100"};
        String text = "host";
        for (int i = 0; i < parts.length; i++) {
            int place = text.length() + 1 + parts[i].indexOf(' ') + 1;
            Texts.faulty(text, 2, text.length());
            Texts.faulty(text + " " + parts[i].substring(0, parts[i].length() - 1) + ";", 2, place);
            if (!low[i].isEmpty()) {
                Texts.faulty(text + " " + low[i], 3, place);
            }
            if (!high[i].isEmpty()) {
                Texts.faulty(text + " " + high[i], 3, place);
            }
            text += " " + parts[i];
        }
        Texts.faulty(text, 2, text.length());
        Texts.sound(text + ";", 1);
        Texts.sound("host limit 999 background 998 age 999 pause 999 window 999 chunk 99 queue 99;", 1);
    }

    private static void things() {
        Texts.faulty(H + "device 5;", 2, 72);
        Texts.faulty(H + "device speed ;", 2, 78);
        Texts.faulty(H + "device speed 5", 2, 79);
        Texts.faulty(H + "device speed 5 6;", 2, 80);
        Texts.faulty(H + "file on 0;", 3, 73);
        Texts.faulty(DEVICE + "file on 1;", 3, 88);
        Texts.faulty(DEVICE + "file 0;", 2, 85);
        Texts.faulty(DEVICE + "writer to 0 wants 1;", 3, 90);
        Texts.faulty(FILE + "writer to 1 wants 1;", 3, 100);
        Texts.faulty(FILE + "writer to 0 wants 100;", 3, 108);
        Texts.faulty(FILE + "writer to 0 speed 1;", 2, 102);
        Texts.faulty(FILE + "writer wants 1;", 2, 97);
        // The device must be told ahead of the file.
        Texts.faulty(DEVICE + "file on 1;device speed 1;", 3, 88);
    }

    private static void tooMany() {
        String devices = H + "device speed 1;".repeat(4);
        Texts.sound(devices, 5);
        Texts.faulty(devices + "device", 4, devices.length());
        Texts.faulty(devices + "device speed", 4, devices.length());
        String files = DEVICE + "file on 0;".repeat(12);
        Texts.sound(files, 14);
        Texts.faulty(files + " file on 0;", 4, files.length() + 1);
        String writers = FILE + "writer to 0 wants 1;".repeat(6);
        Texts.sound(writers, 9);
        Texts.faulty(writers + "writer to 0 wants 1;", 4, writers.length());
        // Where it can't stand at all, it is the lesser kind.
        Texts.faulty(devices + "speed : 1 file", 2, devices.length() + 10);
        Texts.faulty(devices + "speed : device device", 2, devices.length() + 15);
    }

    private static void laws() {
        Texts.sound(H + "wants : writer;", 2);
        Texts.faulty(H + "speed : writer;", 2, 73);
        Texts.faulty(H + "wants 1;", 2, 71);
        Texts.faulty(H + "wants : ;", 2, 73);
        Texts.faulty(H + "wants : -1;", 2, 73);
        Texts.faulty(H + "wants : 1+;", 2, 75);
        Texts.faulty(H + "wants : 1 2;", 2, 75);
        Texts.faulty(H + "wants : 1000;", 1, 73);
        Texts.faulty(H + "wants : (1;", 2, 75);
        Texts.faulty(H + "wants : 1);", 2, 74);
        Texts.faulty(H + "wants : [1=1];", 2, 73);
        Texts.faulty(H + "wants : 1=1;", 2, 74);
        Texts.faulty(H + "wants : not 1=1;", 2, 73);
        Texts.faulty(H + "wants : if 1 then 2 else 3 end;", 2, 78);
        Texts.faulty(H + "wants : if 1=1 then 2 end;", 2, 87);
        Texts.faulty(H + "wants : if 1=1 then 2 else 3;", 2, 93);
        Texts.faulty(H + "wants : if 1=1=1 then 2 else 3 end;", 2, 79);
        Texts.faulty(H + "wants : if (1=1) then 2 else 3 end;", 2, 78);
        Texts.faulty(H + "wants : if [1] then 2 else 3 end;", 2, 78);
        Texts.faulty(H + "wants : if [1=1 then 2 else 3 end;", 2, 81);
        Texts.faulty(H + "wants : if and 1=1 then 2 else 3 end;", 2, 76);
        Texts.faulty(H + "wants : if 1=1 or then 2 else 3 end;", 2, 83);
        Texts.faulty(H + "wants : 1", 2, 74);
        Texts.sound(H + "speed : if not [ 1 = 2 or told < 5 and device > 0 ] then time else ( 3 ) end;", 2);
    }

    private static void depths() {
        String law = H + "wants:";
        Texts.sound(law + "((((((1))))))+((((((1))))));", 2);
        Texts.faulty(law + "(((((((1", 4, 77);
        Texts.faulty(law + "((((((1)))))+((((((1", 4, 89);
        Texts.sound(law + "if not not not not not 1=1 then 1 else 2 end;", 2);
        Texts.faulty(law + "if not not not not not not 1=1 then 1 else 2 end;", 4, 94);
        Texts.sound(law + "if not[not[not 1=1]] and not[not[not 1=1]] then 1 else 2 end;", 2);
        Texts.sound(law + "if not[not[not 1=1]] and not[not[not 1=1]] then (((((1))))) else (((((2))))) end;", 2);
        Texts.faulty(law + "if [[[[[(1", 4, 79);
        Texts.faulty(law + "(((((( if", 4, 78);
        Texts.faulty(law + "((((((not", 2, 77);
        Texts.faulty(law + "(((((([", 2, 77);
        Texts.faulty(law + "if 1=1 then ((((((1", 4, 88);
        // The next law begins anew.
        Texts.sound(law + "((((((1))))));speed:((((((1))))));", 3);
        // So does the next text, wherever the one ahead of it was given up.
        WriterPace x = new WriterPace();
        Check.due("given up inside", Texts.tell(x, law + "((((((;"), -32);
        Check.due("six once more", Texts.tell(x, law + "((((((1))))));"), 2);
    }

    private static void faultsStay() {
        WriterPace x = Texts.told(FILE + "writer to 0 wants 3;");
        x.ticks(2);
        int all = x.count(4);
        Check.due("a fault", Texts.tell(x, "host limit 5;"), -32);
        Check.due("the limit stays", x.set(0), 9);
        Check.due("the ticks stay", x.count(3), 2);
        Check.due("all stays", x.count(4), all);
        Check.due("the undoing stays", x.count(8), 1);
        Check.due("the lines stay", x.count(10), 4);
        Check.due("fault(0)", x.fault(0), 2);
        Check.due("fault(1)", x.fault(1), 12);
        Check.due("refused host", x.host(1), -3);
        Check.due("the fault of the latest that was read", x.fault(0), 2);
        Check.due("a sound one", Texts.tell(x, DEVICE), 2);
        Check.due("no fault", x.fault(0), 0);
        Check.due("no place", x.fault(1), -1);
        Check.due("no tick", x.count(3), 0);
        Check.due("nothing can be undone", x.count(8), 0);
        Check.due("undo", x.undo(1), -3);
        Check.due("no files", x.count(1), 0);
        Check.due("no writers", x.count(2), 0);
        Check.due("all", x.count(4), 0);
    }

    private static void randomTexts() {
        AnyText texts = new AnyText(new Random(38));
        int[] kinds = new int[5];
        for (int i = 0; i < 20000; i++) {
            String text = texts.spoilt(texts.any());
            WriterPace x = new WriterPace();
            Model model = new Model();
            byte[] b = Texts.bytes(text);
            for (int at = 0; at < b.length; at += 20) {
                int[] v = Texts.bytesAt(b, at);
                x.feed(v[0], v[1], v[2], v[3], v[4]);
                model.feed(v[0], v[1], v[2], v[3], v[4]);
            }
            Check.due("host of <" + text + ">", x.host(b.length), model.host(b.length));
            Check.due("place of <" + text + ">", x.fault(1), model.fault(1));
            kinds[x.fault(0)]++;
        }
        for (int kind = 0; kind < 5; kind++) {
            Check.holds("enough texts of fault " + kind + ": " + kinds[kind], kinds[kind] > 20);
        }
    }
}
