import java.util.ArrayList;
import java.util.List;

/** The bounds of the host's text, of its tokens, numbers and lines, and the places of its faults. */
public final class TextBoundsTest {
    private static final String H = Texts.HEAD;
    private static final String WIDE = "host limit 999 background 0 age 99 pause 9 window 99 chunk 9 queue 9;";
    private static final String ONE = WIDE + "device speed 0;file on 0;writer to 0 wants 1;";

    /** A sound text of all kinds of lines and atoms, token by token. */
    private static final String[] TOKENS = ("host limit 20 background 3 age 5 pause 6 window 7 chunk 8 queue 9 ; "
            + "device speed 50 ; file on 0 ; writer to 0 wants 4 ; wants : if not [ time < 5 or told = 3 and "
            + "device > 1 ] then ( writer + 2 ) * 3 - 1 else 7 end ; speed : told - 1 + time * 2 ; ").split(" ");

    public static void main(String[] args) throws Exception {
        Sentences.runAll(TextBoundsTest.class);
    }

    private static String blanks(int n) {
        return " ".repeat(n);
    }

    // ---- how long the text may be

    static void term_a_text_of_900_bytes_is_read_to_its_last_one() {
        String start = H + "device speed 5";
        String text = start + blanks(899 - start.length()) + ";";
        Check.due("its length", text.length(), 900);
        Texts.sound(text, 2);
        Texts.sound(blanks(900 - H.length()) + H, 1);
        Texts.faulty(text.substring(0, 899), 2, 899);
        Texts.faulty(text.substring(0, 899) + "#", 1, 899);
        Texts.faulty(blanks(900), 2, 900);
    }

    static void term_tokens_end_with_the_text() {
        // The tape goes on behind the first n bytes, but the text doesn't.
        String text = "host limit 12 background 3 age";
        WriterPace x = new WriterPace();
        int[] places = {0, 0, 0, 4, 5, 5, 5, 5, 5, 10, 11, 12, 13, 14};
        for (int n = 1; n <= places.length; n++) {
            for (int at = 0; at < text.length(); at += 20) {
                int[] v = Texts.bytesAt(Texts.bytes(text), at);
                x.feed(v[0], v[1], v[2], v[3], v[4]);
            }
            Check.due("host(" + n + ")", x.host(n), -32);
            Check.due("place of host(" + n + ")", x.fault(1), places[n - 1]);
        }
        // A text of 900 bytes may end with any kind of token.
        String start = H + blanks(834);
        Texts.faulty(start + "w", 2, 899);
        Texts.faulty(start + "7", 2, 899);
        Texts.faulty(start + ";", 2, 899);
        Texts.faulty(start + "#", 1, 899);
        Texts.sound(start + "\n", 1);
    }

    static void term_a_law_may_fill_the_text() {
        StringBuilder law = new StringBuilder(ONE + "wants:");
        while (law.length() + 4 <= 900) {
            law.append("0+");
        }
        law.append("7;");
        WriterPace x = Texts.told(law.toString());
        x.ticks(1);
        Check.due("the last atom counts", x.writer(0, 4), 7);
    }

    static void term_struck_laws_may_fill_the_text() {
        StringBuilder text = new StringBuilder(ONE);
        int lines = 4;
        while (text.length() + 8 + 12 <= 900) {
            text.append("wants:9;");
            lines++;
        }
        text.append("wants:5-1-1;");
        Texts.sound(text.toString(), lines + 1);
        WriterPace x = Texts.told(text.toString());
        x.ticks(1);
        Check.due("the last one is the law", x.writer(0, 4), 3);
    }

    static void term_ifs_may_fill_the_text() {
        StringBuilder law = new StringBuilder(ONE + "wants:");
        int ifs = 0;
        while (law.length() + 28 <= 900) {
            law.append("if 1=1 then 2 else 3 end+");
            ifs++;
        }
        law.append("1;");
        WriterPace x = Texts.told(law.toString());
        x.ticks(1);
        Check.due("each tells 2", x.writer(0, 4), 2 * ifs + 1);
    }

    // ---- tokens

    static void term_each_byte_is_a_blank_or_begins_a_token_or_is_a_fault() {
        for (int b = 0; b < 256; b++) {
            String text = H + (char) b;
            boolean begins = b >= 'a' && b <= 'z' || b >= '0' && b <= '9' || ";:+-*()[]=<>".indexOf(b) >= 0;
            if (b == 10 || b == 32) {
                Texts.sound(text, 1);
                Texts.sound((char) b + H, 1);
                Texts.sound(H.replace(' ', (char) b), 1);
            } else {
                Texts.faulty(text, begins ? 2 : 1, 65);
                Texts.faulty((char) b + H, begins ? 2 : 1, 0);
            }
        }
    }

    static void term_words_go_on_as_long_as_there_are_letters() {
        Texts.faulty("hostlimit 9", 2, 0);
        Texts.faulty("hos t", 2, 0);
        Texts.faulty(H + "devicespeed 5;", 2, 65);
        Texts.faulty(H + "devices speed 5;", 2, 65);
        Texts.faulty(H + "devic speed 5;", 2, 65);
        Texts.faulty(H + "wants : tim", 2, 73);
        Texts.faulty(H + "wants : timed;", 2, 73);
        Texts.faulty(H + "wants : if 1 = 1then 2 else 3ends;", 2, 94);
        Texts.sound(H + "wants:if 1=1then 2else 3end;", 2);
    }

    static void term_numbers_go_on_as_long_as_there_are_digits() {
        Texts.faulty(H + "device speed 1 2;", 2, 80);
        WriterPace x = Texts.told(H + "device speed12;device speed 007;device speed\n000\n;");
        Check.due("12 is one number", x.device(0, 0), 12);
        Check.due("007", x.device(1, 0), 7);
        Check.due("000", x.device(2, 0), 0);
    }

    static void term_blanks_stand_anywhere_between_tokens_and_nowhere_within() {
        Texts.sound("host limit9background1age1pause1window1chunk1queue1;device speed1;", 2);
        Texts.sound(String.join("  \n ", TOKENS), 6);
        Texts.sound(" \n\n" + H + "\n \n", 1);
        Texts.faulty(H + "de vice speed 1;", 2, 65);
    }

    static void term_a_number_has_three_digits_at_most() {
        Texts.sound(H + "device speed 5;", 2);
        Texts.sound(H + "device speed 55;", 2);
        Texts.sound(H + "device speed 555;", 2);
        Texts.faulty(H + "device speed 5555;", 1, 78);
        Texts.faulty(H + "device speed 0005;", 1, 78);
        // 4294967301 is 5, if an int wraps around.
        Texts.faulty(H + "device speed 4294967301;", 1, 78);
        Texts.faulty(H + "device speed " + "1".repeat(800) + ";", 1, 78);
        Texts.faulty(H + "wants : 1000;", 1, 73);
        Texts.faulty("1000", 1, 0);
        Texts.sound(H + "wants : 999;", 2);
    }

    // ---- faults and their places

    private static String joined(int tokens) {
        StringBuilder text = new StringBuilder();
        for (int i = 0; i < tokens; i++) {
            text.append(i == 0 ? "" : " ").append(TOKENS[i]);
        }
        return text.toString();
    }

    private static void withOneReplaced(String other, int kind, int from) {
        for (int i = from; i < TOKENS.length; i++) {
            String ahead = joined(i) + (i == 0 ? "" : " ");
            StringBuilder behind = new StringBuilder();
            for (int k = i + 1; k < TOKENS.length; k++) {
                behind.append(" ").append(TOKENS[k]);
            }
            Texts.faulty(ahead + other + behind, kind, ahead.length());
        }
    }

    static void term_fault_2_at_the_end_has_the_texts_length() {
        int lines = 0;
        for (int i = 0; i <= TOKENS.length; i++) {
            String text = joined(i);
            if (i > 0 && TOKENS[i - 1].equals(";")) {
                lines++;
                Texts.sound(text, lines);
                Texts.sound(text + " ", lines);
            } else {
                Texts.faulty(text, 2, text.length());
                Texts.faulty(text + " \n", 2, text.length() + 2);
            }
        }
        Check.due("all of it", lines, 6);
    }

    static void term_fault_1_is_found_at_each_token() {
        withOneReplaced("#", 1, 0);
        withOneReplaced("_", 1, 0);
        withOneReplaced("1000", 1, 0);
    }

    static void term_fault_2_is_found_at_each_token() {
        withOneReplaced("zzz", 2, 0);
        withOneReplaced("limits", 2, 0);
    }

    static void term_a_word_counts_in_whole() {
        for (int i = 0; i < TOKENS.length; i++) {
            String word = TOKENS[i];
            String ahead = joined(i) + (i == 0 ? "" : " ");
            for (int k = 0; k < word.length() && word.charAt(0) >= 'a' && word.charAt(0) <= 'z'; k++) {
                String other = word.substring(0, k) + (word.charAt(k) == 'q' ? 'x' : 'q') + word.substring(k + 1);
                Texts.faulty(ahead + other, 2, ahead.length());
            }
        }
    }

    /** Each token in the place of each other one: the fault and its place as in the plain model. */
    static void term_any_token_in_the_place_of_any_other() {
        String[] words = ("host limit background age pause window chunk queue device speed file on writer to wants "
                + "if then else end not and or time told ; : + - * ( ) [ ] = < > 0 1 99 100 999 1000 # zz").split(" ");
        int[] kinds = new int[5];
        for (int i = 0; i < TOKENS.length; i++) {
            StringBuilder behind = new StringBuilder();
            for (int k = i + 1; k < TOKENS.length; k++) {
                behind.append(" ").append(TOKENS[k]);
            }
            for (String word : words) {
                String text = joined(i) + " " + word + behind;
                WriterPace x = new WriterPace();
                Model model = new Model();
                byte[] b = Texts.bytes(text);
                for (int at = 0; at < b.length; at += 20) {
                    int[] v = Texts.bytesAt(b, at);
                    x.feed(v[0], v[1], v[2], v[3], v[4]);
                    model.feed(v[0], v[1], v[2], v[3], v[4]);
                }
                Check.due("host of <" + text + ">", x.host(b.length), model.host(b.length));
                Check.due("place of <" + text + ">", x.fault(1), model.fault(1));
                kinds[x.fault(0)]++;
            }
        }
        for (int kind = 0; kind <= 3; kind++) {
            Check.holds("some texts of kind " + kind + ": " + kinds[kind], kinds[kind] > 20);
        }
    }

    static void term_host_must_be_told_first_and_once() {
        withOneReplaced("host", 2, 1);
        Texts.faulty(H + H, 2, 65);
        Texts.faulty("device speed 1;" + H, 2, 0);
        Texts.faulty(";" + H, 2, 0);
        Texts.sound(H, 1);
    }

    static void term_a_line_begins_with_one_of_five_words() {
        for (String word : new String[] {"limit", "background", "age", "pause", "window", "chunk", "queue", "on",
            "to", "time", "told", "if", "then", "else", "end", "not", "and", "or", "host", "7", ":", "("}) {
            Texts.faulty(H + word, 2, 65);
        }
        for (String word : new String[] {"device", "file", "writer", "wants", "speed"}) {
            Texts.faulty(H + word, 2, 65 + word.length());
        }
    }

    static void term_fault_2_for_a_word_of_the_other_law() {
        Texts.sound(H + "wants : writer;", 2);
        Texts.faulty(H + "speed : writer;", 2, 73);
        Texts.faulty(H + "speed : if 1 = writer then 1 else 2 end;", 2, 80);
        // The law that is read counts, not one told before.
        Texts.faulty(H + "wants : writer;speed : writer;", 2, 88);
        Texts.sound(H + "speed : time;wants : writer;", 3);
        Texts.faulty(H + "speed : 1 + ( 2 * writer );", 2, 83);
    }

    static void term_the_first_fault_along_the_text_counts() {
        Texts.faulty("host limit 0 #", 3, 11);
        Texts.faulty("host limit 0 background 5", 3, 11);
        Texts.faulty(H + "file on 0; #", 3, 73);
        Texts.faulty(H + "zzz # 1000", 2, 65);
        String devices = H + "device speed 1;".repeat(4);
        Texts.faulty(devices + "device # 1000", 4, devices.length());
        Texts.faulty(devices + "# device", 1, devices.length());
        Texts.faulty(devices + "file on 4;device", 3, devices.length() + 8);
        Texts.faulty(H + "wants : (((((((#", 4, 79);
        Texts.faulty(H + "wants : ((((((#(", 1, 79);
    }

    static void term_of_one_token_the_least_kind_counts() {
        // 1 ahead of 2 and 3: too many digits, wherever they stand.
        Texts.faulty("host limit 1000", 1, 11);
        Texts.faulty("host 1000", 1, 5);
        // 2 ahead of 3: out of all bounds, but no number can stand there.
        Texts.faulty("host 0", 2, 5);
        Texts.faulty(H + "device 999;", 2, 72);
        Texts.faulty(H + "device speed 1 999;", 2, 80);
        // 2 ahead of 4: one too many, but not where one may begin.
        String devices = H + "device speed 1;".repeat(4);
        Texts.faulty(devices + "file device", 2, devices.length() + 5);
        Texts.faulty(devices + "file on 0 device", 2, devices.length() + 10);
        Texts.faulty(H + "wants : ((((((1(", 2, 80);
        Texts.faulty(H + "wants : ((((((1 if", 2, 81);
        Texts.faulty(H + "wants : ((((((not", 2, 79);
        Texts.faulty(H + "wants : (((((([", 2, 79);
    }

    // ---- the bounds of numbers

    /** Tells a number in a line: sound from least to greatest, fault 3 at its place beyond. */
    private static void bounds(String ahead, String behind, int least, int greatest, int lines) {
        Texts.sound(ahead + least + behind, lines);
        Texts.sound(ahead + greatest + behind, lines);
        if (least > 0) {
            Texts.faulty(ahead + (least - 1) + behind, 3, ahead.length());
        }
        if (greatest < 999) {
            Texts.faulty(ahead + (greatest + 1) + behind, 3, ahead.length());
            Texts.faulty(ahead + 999 + behind, 3, ahead.length());
        } else {
            Texts.faulty(ahead + 1000 + behind, 1, ahead.length());
        }
    }

    static void term_limit_is_1_to_999() {
        bounds("host limit ", " background 0 age 1 pause 1 window 1 chunk 1 queue 1;", 1, 999, 1);
    }

    static void term_background_is_0_to_limit_less_1() {
        bounds("host limit 1 background ", " age 1 pause 1 window 1 chunk 1 queue 1;", 0, 0, 1);
        bounds("host limit 9 background ", " age 1 pause 1 window 1 chunk 1 queue 1;", 0, 8, 1);
        bounds("host limit 999 background ", " age 1 pause 1 window 1 chunk 1 queue 1;", 0, 998, 1);
        // The limit of this text counts, not that of an earlier one.
        WriterPace x = Texts.told(WIDE);
        Check.due("earlier limits", Texts.tell(x, "host limit 5 background 5 age 1"), -33);
        Check.due("earlier limits", Texts.tell(x, H), 1);
        Check.due("earlier limits", Texts.tell(x, "host limit 99 background 98 age 1 pause 1 window 1 "
                + "chunk 1 queue 1;"), 1);
    }

    static void term_age_is_1_to_999() {
        bounds("host limit 9 background 1 age ", " pause 1 window 1 chunk 1 queue 1;", 1, 999, 1);
    }

    static void term_pause_is_1_to_999() {
        bounds("host limit 9 background 1 age 1 pause ", " window 1 chunk 1 queue 1;", 1, 999, 1);
    }

    static void term_window_is_1_to_999() {
        bounds("host limit 9 background 1 age 1 pause 1 window ", " chunk 1 queue 1;", 1, 999, 1);
    }

    static void term_chunk_is_1_to_99() {
        bounds("host limit 9 background 1 age 1 pause 1 window 1 chunk ", " queue 1;", 1, 99, 1);
    }

    static void term_queue_is_1_to_99() {
        bounds("host limit 9 background 1 age 1 pause 1 window 1 chunk 1 queue ", ";", 1, 99, 1);
    }

    static void term_speed_is_0_to_999() {
        bounds(H + "device speed ", ";", 0, 999, 2);
    }

    static void term_a_files_device_was_told_ahead() {
        Texts.faulty(H + "file on 0;", 3, 73);
        for (int devices = 1; devices <= 4; devices++) {
            String ahead = H + "device speed 1;".repeat(devices);
            bounds(ahead + "file on ", ";", 0, devices - 1, devices + 2);
            Texts.faulty(ahead + "file on " + devices + ";device speed 1;", 3, ahead.length() + 8);
        }
        Texts.sound(H + "device speed 1;file on 0;device speed 1;file on 1;", 5);
    }

    static void term_a_writers_file_was_told_ahead() {
        Texts.faulty(H + "writer to 0 wants 1;", 3, 75);
        Texts.faulty(H + "device speed 1;writer to 0 wants 1;", 3, 90);
        for (int files = 1; files <= 12; files++) {
            String ahead = H + "device speed 1;" + "file on 0;".repeat(files);
            bounds(ahead + "writer to ", " wants 1;", 0, files - 1, files + 3);
        }
        String one = H + "device speed 1;file on 0;";
        Texts.faulty(one + "writer to 1 wants 1;file on 0;", 3, one.length() + 10);
    }

    static void term_wants_is_0_to_99() {
        bounds(H + "device speed 1;file on 0;writer to 0 wants ", ";", 0, 99, 4);
    }

    static void term_a_number_of_a_law_is_0_to_999() {
        bounds(H + "wants : ", ";", 0, 999, 2);
        bounds(H + "speed : 1 * ", ";", 0, 999, 2);
        bounds(H + "speed : if 1 = 1 then 2 else ", " end;", 0, 999, 2);
    }

    // ---- how many of each

    static void term_there_are_4_devices_at_most() {
        String devices = H + "device speed 1;".repeat(4);
        Texts.sound(devices, 5);
        Texts.faulty(devices + "device speed 1;", 4, devices.length());
        Texts.faulty(devices + " \n device", 4, devices.length() + 3);
        Texts.faulty(devices + "device zzz", 4, devices.length());
        WriterPace x = Texts.told(devices);
        Check.due("count(0)", x.count(0), 4);
        Check.due("the last one", x.device(3, 0), 1);
        Check.due("beyond it", x.device(4, 0), -2);
    }

    static void term_there_are_12_files_at_most() {
        String files = H + "device speed 1;" + "file on 0;".repeat(12);
        Texts.sound(files, 14);
        Texts.faulty(files + "file on 0;", 4, files.length());
        Texts.faulty(files + "file", 4, files.length());
        Texts.faulty(files + "file on 9;", 4, files.length());
        WriterPace x = Texts.told(files);
        Check.due("count(1)", x.count(1), 12);
        Check.due("the last one", x.file(11, 0), 0);
        Check.due("beyond it", x.file(12, 0), -2);
    }

    static void term_there_are_6_writers_at_most() {
        String writers = H + "device speed 1;file on 0;" + "writer to 0 wants 1;".repeat(6);
        Texts.sound(writers, 9);
        Texts.faulty(writers + "writer to 0 wants 1;", 4, writers.length());
        Texts.faulty(writers + "writer", 4, writers.length());
        Texts.faulty(writers + "writer to 9", 4, writers.length());
        WriterPace x = Texts.told(writers);
        Check.due("count(2)", x.count(2), 6);
        Check.due("the last one", x.writer(5, 1), 1);
        Check.due("beyond it", x.writer(6, 1), -2);
    }

    static void term_each_text_counts_anew() {
        WriterPace x = new WriterPace();
        String devices = H + "device speed 1;".repeat(4);
        for (int i = 0; i < 3; i++) {
            Check.due("four", Texts.tell(x, devices), 5);
            Check.due("five", Texts.tell(x, devices + "device"), -34);
        }
        Check.due("files of the host before", Texts.tell(x, H + "file on 0;"), -33);
        Check.due("count(0) stays", x.count(0), 4);
        Check.due("none", Texts.tell(x, H), 1);
        Check.due("count(0)", x.count(0), 0);
    }

    /** Three ticks of a host: what its device and its writer wrote, and its credit. */
    private static void threeTicks(WriterPace x, String text, int device, int credit, int writer) {
        Check.holds("sound: " + text, Texts.tell(x, text) > 0);
        Check.due("device of " + text, x.ticks(3), device);
        Check.due("credit of " + text, x.device(0, 3), credit);
        Check.due("writer of " + text, x.writer(0, 4), writer);
    }

    static void term_laws_end_with_their_host() {
        WriterPace x = new WriterPace();
        String fast = ONE.replace("speed 0", "speed 150");
        threeTicks(x, fast + "wants : 1 + 2 + 3 + 4 + 5 + 6;speed : 9 * 9 + 9 + 9 + 1;", 1, 0, 63);
        threeTicks(x, fast + "wants : 9;", 1, 50, 27);
        threeTicks(x, fast + "speed : 20;wants : 8 + 0;", 0, 20, 24);
        threeTicks(x, fast, 1, 0, 3);
        threeTicks(x, fast + "wants : 8 + 0;speed : 210;", 2, 10, 24);
        threeTicks(x, fast, 1, 0, 3);
        threeTicks(x, fast + "speed : 70;", 0, 70, 3);
        threeTicks(x, fast + "wants : told + 4;", 1, 50, 15);
        // A shorter law ends where the longer one had its not.
        threeTicks(x, fast + "wants : if not 1 = 2 then 5 else 6 end;", 1, 50, 15);
        threeTicks(x, fast + "wants : 1 + 2;", 1, 50, 9);
    }

    static void term_the_longest_law_may_be_told_again_and_again() {
        StringBuilder law = new StringBuilder(ONE + "wants:");
        while (law.length() + 4 <= 900) {
            law.append("0+");
        }
        WriterPace x = new WriterPace();
        for (int i = 1; i <= 8; i++) {
            Check.due("host", Texts.tell(x, law + "" + i + ";"), 5);
            x.ticks(1);
            Check.due("the last atom counts", x.writer(0, 4), i);
        }
    }

    static void term_later_laws_strike() {
        WriterPace x = Texts.told(WIDE + "wants : 5;speed : 100;device speed 0;file on 0;writer to 0 wants 1;"
                + "speed : 200;wants : 7;");
        x.ticks(2);
        Check.due("the later law of wants", x.writer(0, 4), 14);
        Check.due("the later law of speed", x.ticks(1), 2);
        WriterPace y = Texts.told(ONE + "wants : 5;speed : 100;wants : 9;");
        y.ticks(2);
        Check.due("the later law of wants", y.writer(0, 4), 18);
        Check.due("the only law of speed", y.ticks(1), 1);
    }

    // ---- six of not [ ( if within one another

    private static final String[] OPENERS = {"(", "if", "not", "["};

    /** The text of a sum that opens one level after the other; the last one has a mark ahead. */
    private static String sum(List<String> open, int at) {
        if (at == open.size()) {
            return "1";
        }
        String mark = at == open.size() - 1 ? "@" : "";
        if (open.get(at).equals("(")) {
            return mark + "( " + sum(open, at + 1) + " )";
        }
        return mark + "if " + truth(open, at + 1) + " then 1 else 1 end";
    }

    private static String truth(List<String> open, int at) {
        if (at == open.size()) {
            return "1 = 1";
        }
        String mark = at == open.size() - 1 ? "@" : "";
        switch (open.get(at)) {
            case "not":
                return mark + "not " + truth(open, at + 1);
            case "[":
                return mark + "[ " + truth(open, at + 1) + " ]";
            default:
                return sum(open, at) + " = 1";
        }
    }

    /** Tells all rows of so many openers that can stand within one another. */
    private static int allOf(List<String> open, boolean inTruth, int left) {
        if (left == 0) {
            String marked = H + "wants : " + sum(open, 0) + ";";
            String text = marked.replace("@", "");
            if (open.size() <= 6) {
                Texts.sound(text, 2);
            } else {
                Texts.faulty(text, 4, marked.indexOf('@'));
            }
            return 1;
        }
        int many = 0;
        for (int i = 0; i < (inTruth ? 4 : 2); i++) {
            open.add(OPENERS[i]);
            many += allOf(open, i > 0, left - 1);
            open.remove(open.size() - 1);
        }
        return many;
    }

    static void term_six_of_not_bracket_parenthesis_if_may_stand_within_one_another() {
        Check.due("rows of six", allOf(new ArrayList<>(), false, 6), 792);
        Check.due("rows of one", allOf(new ArrayList<>(), false, 1), 2);
    }

    static void term_fault_4_at_the_seventh_of_not_bracket_parenthesis_if() {
        Check.due("rows of seven", allOf(new ArrayList<>(), false, 7), 2704);
    }

    static void term_levels_end_with_what_opened_them() {
        String law = H + "wants : ";
        Texts.sound(law + "((((((1))))))*((((((1))))))-((((((1))))));", 2);
        Texts.sound(law + "if not not not not not 1 = 1 and not not not not not 1 = 1 then (((((1))))) "
                + "else (((((1))))) end + ((((((1))))));", 2);
        Texts.sound(law + "if [[[[[1 = 1]]]]] or [[[[(1) = (1)]]]] then 1 else 1 end;", 2);
        // An if is open until its end: its sums are within it.
        Texts.faulty(law + "if 1 = 1 then ((((((1", 4, 73 + 19);
        Texts.faulty(law + "if 1 = 1 then 1 else ((((((1", 4, 73 + 26);
        Texts.faulty(law + "if not not not not not (1) = 1 then", 4, 73 + 23);
        Texts.faulty(law + "if not not not not not 1 = (1)", 4, 73 + 27);
        Texts.sound(law + "if not not not not [1 = 1] and (1) = 1 then 1 else 1 end;", 2);
        // A law, and a text, begins anew, however the one before ended.
        Texts.sound(law + "((((((1))))));wants : ((((((1))))));speed : ((((((1))))));", 4);
        WriterPace x = new WriterPace();
        Check.due("given up inside six", Texts.tell(x, law + "if [[[[[1"), -32);
        Check.due("six anew", Texts.tell(x, law + "if [[[[[1 = 1]]]]] then 1 else 1 end;"), 2);
    }
}
