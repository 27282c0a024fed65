import java.util.ArrayDeque;
import java.util.ArrayList;
import java.util.Deque;
import java.util.List;
import java.math.BigInteger;

/**
 * The document once more, as plainly as it goes and with nothing shared with WriterPace: every
 * number that can be summed is summed anew, laws are trees that are walked each time, a question
 * copies the whole world. The random test holds WriterPace against it.
 */
final class Model {
    private interface Sum {
        long of(World world, int told, int device, int writer);
    }

    private static final class Fault extends Exception {
        private static final long serialVersionUID = 1L;
        final int kind;
        final int place;

        Fault(int kind, int place) {
            this.kind = kind;
            this.place = place;
        }
    }

    private static final class Device {
        int speed;
        int flight;
        int credit;
        double estimate;
        int count;
        int wrote;
        int windowed;
        int turn = -1;

        Device copy() {
            Device c = new Device();
            c.speed = speed;
            c.flight = flight;
            c.credit = credit;
            c.estimate = estimate;
            c.count = count;
            c.wrote = wrote;
            c.windowed = windowed;
            c.turn = turn;
            return c;
        }
    }

    private static final class Paper {
        int device;
        int dirty;
        int since;

        Paper copy() {
            Paper c = new Paper();
            c.device = device;
            c.dirty = dirty;
            c.since = since;
            return c;
        }
    }

    private static final class Pen {
        int file;
        int wants;
        int pause;
        int last;
        int made;
        int held;

        Pen copy() {
            Pen c = new Pen();
            c.file = file;
            c.wants = wants;
            c.pause = pause;
            c.last = last;
            c.made = made;
            c.held = held;
            return c;
        }
    }

    private static final class World {
        int limit = 100;
        int background = 10;
        int age = 30;
        int pause = 20;
        int window = 10;
        int chunk = 4;
        int queue = 8;
        int lines = 0;
        int tick = 0;
        Sum wantsLaw = null;
        Sum speedLaw = null;
        List<Device> devices = new ArrayList<>();
        List<Paper> files = new ArrayList<>();
        List<Pen> writers = new ArrayList<>();
        int stalled = -1;
        int lawless = -1;
        boolean nobodyWrites = false;

        World copy() {
            World c = new World();
            c.limit = limit;
            c.background = background;
            c.age = age;
            c.pause = pause;
            c.window = window;
            c.chunk = chunk;
            c.queue = queue;
            c.lines = lines;
            c.tick = tick;
            c.wantsLaw = wantsLaw;
            c.speedLaw = speedLaw;
            devices.forEach(d -> c.devices.add(d.copy()));
            files.forEach(f -> c.files.add(f.copy()));
            writers.forEach(w -> c.writers.add(w.copy()));
            return c;
        }

        int dirtyOn(int d) {
            int sum = 0;
            for (Paper f : files) {
                if (f.device == d) {
                    sum += f.dirty;
                }
            }
            return sum;
        }

        int dirty() {
            return files.stream().mapToInt(f -> f.dirty).sum();
        }

        int flight() {
            return devices.stream().mapToInt(d -> d.flight).sum();
        }

        int all() {
            return dirty() + flight();
        }

        int wrote() {
            return devices.stream().mapToInt(d -> d.wrote).sum();
        }

        int made() {
            return writers.stream().mapToInt(w -> w.made).sum();
        }

        int held() {
            return writers.stream().mapToInt(w -> w.held).sum();
        }

        int free() {
            return Math.floorDiv(background + limit, 2);
        }

        int share(int d) {
            int counts = devices.stream().mapToInt(v -> v.count).sum();
            int share = counts == 0 ? limit / devices.size()
                    : (int) ((long) limit * devices.get(d).count / counts);
            return share < 1 ? 1 : share;
        }

        void ticks(int n) {
            for (int i = 0; i < n; i++) {
                tick++;
                for (int d = 0; d < devices.size(); d++) {
                    partA(d);
                }
                if (tick % window == 0) {
                    for (Device v : devices) {
                        partB(v);
                    }
                }
                for (int d = 0; d < devices.size(); d++) {
                    partC(d);
                }
                if (!nobodyWrites) {
                    int many = writers.size();
                    for (int k = 0; k < many; k++) {
                        partD(Math.floorMod(tick % many + k, many));
                    }
                }
            }
        }

        void partA(int d) {
            Device v = devices.get(d);
            long more = v.speed;
            if (speedLaw != null && lawless != d) {
                more = Math.min(999, Math.max(0, speedLaw.of(this, v.speed, d, -1)));
            }
            if (stalled == d) {
                more = 0;
            }
            v.credit += (int) more;
            while (v.credit >= 100 && v.flight > 0) {
                v.credit -= 100;
                v.flight--;
                v.wrote++;
                v.windowed++;
            }
            if (v.flight == 0) {
                v.credit = 0;
            }
        }

        void partB(Device v) {
            int w = v.windowed;
            v.windowed = 0;
            v.count = Math.floorDiv(v.count, 2) + w;
            if (w > 0 || v.flight > 0) {
                v.estimate = v.estimate + (w * 100.0 / window - v.estimate) / 8.0;
            }
        }

        boolean old(Paper f) {
            return f.dirty > 0 && tick - f.since >= age;
        }

        /** The file taken next: its number, or 100 more if it is taken by turns. */
        int nextOf(int d) {
            int best = -1;
            List<Integer> ring = new ArrayList<>();
            for (int f = 0; f < files.size(); f++) {
                Paper p = files.get(f);
                if (p.device != d) {
                    continue;
                }
                ring.add(f);
                if (old(p) && (best < 0 || p.since < files.get(best).since)) {
                    best = f;
                }
            }
            if (best >= 0 || all() <= background) {
                return best;
            }
            int from = ring.indexOf(devices.get(d).turn) + 1;
            for (int k = 0; k < ring.size(); k++) {
                int f = ring.get((from + k) % ring.size());
                if (files.get(f).dirty > 0) {
                    return 100 + f;
                }
            }
            return -1;
        }

        void partC(int d) {
            Device v = devices.get(d);
            while (v.flight < queue) {
                int f = nextOf(d);
                if (f < 0) {
                    break;
                }
                if (f >= 100) {
                    f -= 100;
                    v.turn = f;
                }
                int n = Math.min(chunk, queue - v.flight);
                for (int i = 0; i < n && files.get(f).dirty > 0; i++) {
                    files.get(f).dirty--;
                    v.flight++;
                }
            }
        }

        void partD(int number) {
            Pen w = writers.get(number);
            if (w.pause > 0) {
                w.pause--;
                return;
            }
            Paper f = files.get(w.file);
            long wants = w.wants;
            if (wantsLaw != null) {
                wants = Math.min(99, Math.max(0, wantsLaw.of(this, w.wants, f.device, number)));
            }
            int x = 0;
            while (x < wants && all() < limit) {
                if (f.dirty == 0) {
                    f.since = tick;
                }
                f.dirty++;
                w.made++;
                x++;
            }
            if (x < wants) {
                w.held++;
            }
            if (x > 0 && all() > free()) {
                w.last = (3 * w.last + pauseOf(number, x)) / 4;
                w.pause = w.last;
            }
        }

        int pauseOf(int number, int x) {
            int d = files.get(writers.get(number).file).device;
            int many = 0;
            for (Pen w : writers) {
                if (files.get(w.file).device == d) {
                    many++;
                }
            }
            int on = dirtyOn(d) + devices.get(d).flight;
            double set = (free() + limit) / 2.0;
            double g = (set - all()) / (limit - set);
            double p = 1.0 + g * g * g;
            p = Math.min(2.0, Math.max(0.0, p));
            double half = share(d) / 2.0;
            double q = 1.0 + (half - on) / half;
            q = Math.min(2.0, Math.max(0.0, q));
            double rate = Math.max(1.0, devices.get(d).estimate / many * p * q);
            return (int) Math.min(pause, x * 100.0 / rate);
        }
    }

    /** Cuts a text into all its tokens first; a wrong one is kept and found when it is reached. */
    private static final class Parser {
        final List<String> tokens = new ArrayList<>();
        final List<Integer> places = new ArrayList<>();
        final World world = new World();
        int at = 0;
        int deep = 0;
        boolean wantsLaw = false;

        Parser(String text) {
            int i = 0;
            while (i < text.length()) {
                char c = text.charAt(i);
                int j = i + 1;
                if (c == 10 || c == 32) {
                    i++;
                    continue;
                }
                String token;
                if (c >= 'a' && c <= 'z') {
                    while (j < text.length() && text.charAt(j) >= 'a' && text.charAt(j) <= 'z') {
                        j++;
                    }
                    token = text.substring(i, j);
                } else if (c >= '0' && c <= '9') {
                    while (j < text.length() && text.charAt(j) >= '0' && text.charAt(j) <= '9') {
                        j++;
                    }
                    token = j - i > 3 ? "!" : text.substring(i, j);
                } else {
                    token = ";:+-*()[]=<>".indexOf(c) >= 0 ? text.substring(i, j) : "!";
                }
                tokens.add(token);
                places.add(i);
                i = j;
            }
            tokens.add("");
            places.add(text.length());
        }

        String peek() throws Fault {
            if (tokens.get(at).equals("!")) {
                throw new Fault(1, places.get(at));
            }
            return tokens.get(at);
        }

        Fault fault(int kind) {
            return new Fault(kind, places.get(at));
        }

        boolean sees(String... any) throws Fault {
            for (String t : any) {
                if (peek().equals(t)) {
                    return true;
                }
            }
            return false;
        }

        void take(String token) throws Fault {
            if (!sees(token)) {
                throw fault(2);
            }
            at++;
        }

        boolean seesNumber() throws Fault {
            return !peek().isEmpty() && Character.isDigit(peek().charAt(0));
        }

        int number(String word, int least, int greatest) throws Fault {
            take(word);
            if (!seesNumber()) {
                throw fault(2);
            }
            int n = Integer.parseInt(peek());
            if (n < least || n > greatest) {
                throw fault(3);
            }
            at++;
            return n;
        }

        World parse() throws Fault {
            take("host");
            world.limit = number("limit", 1, 999);
            world.background = number("background", 0, world.limit - 1);
            world.age = number("age", 1, 999);
            world.pause = number("pause", 1, 999);
            world.window = number("window", 1, 999);
            world.chunk = number("chunk", 1, 99);
            world.queue = number("queue", 1, 99);
            take(";");
            world.lines = 1;
            while (!sees("")) {
                line();
                take(";");
                world.lines++;
            }
            return world;
        }

        void line() throws Fault {
            String word = peek();
            boolean full = word.equals("device") && world.devices.size() == 4
                    || word.equals("file") && world.files.size() == 12
                    || word.equals("writer") && world.writers.size() == 6;
            if (full) {
                throw fault(4);
            }
            if (!sees("device", "file", "writer", "wants", "speed")) {
                throw fault(2);
            }
            at++;
            if (word.equals("device")) {
                Device d = new Device();
                d.speed = number("speed", 0, 999);
                d.estimate = d.speed;
                world.devices.add(d);
            } else if (word.equals("file")) {
                Paper f = new Paper();
                f.device = number("on", 0, world.devices.size() - 1);
                world.files.add(f);
            } else if (word.equals("writer")) {
                Pen w = new Pen();
                w.file = number("to", 0, world.files.size() - 1);
                w.wants = number("wants", 0, 99);
                world.writers.add(w);
            } else {
                take(":");
                wantsLaw = word.equals("wants");
                Sum sum = sum();
                if (wantsLaw) {
                    world.wantsLaw = sum;
                } else {
                    world.speedLaw = sum;
                }
            }
        }

        static long kept(long v) {
            return Math.max(-1000000, Math.min(1000000, v));
        }

        Sum sum() throws Fault {
            Sum left = term();
            while (sees("+", "-")) {
                boolean plus = sees("+");
                at++;
                Sum a = left;
                Sum b = term();
                left = plus ? (s, t, d, w) -> kept(a.of(s, t, d, w) + b.of(s, t, d, w))
                        : (s, t, d, w) -> kept(a.of(s, t, d, w) - b.of(s, t, d, w));
            }
            return left;
        }

        Sum term() throws Fault {
            Sum left = atom();
            while (sees("*")) {
                at++;
                Sum a = left;
                Sum b = atom();
                left = (s, t, d, w) -> kept(a.of(s, t, d, w) * b.of(s, t, d, w));
            }
            return left;
        }

        void open() throws Fault {
            if (deep == 6) {
                throw fault(4);
            }
            deep++;
            at++;
        }

        Sum atom() throws Fault {
            if (seesNumber()) {
                int n = Integer.parseInt(peek());
                at++;
                return (s, t, d, w) -> n;
            }
            if (sees("(")) {
                open();
                Sum inner = sum();
                take(")");
                deep--;
                return inner;
            }
            if (sees("if")) {
                open();
                Sum truth = truth();
                take("then");
                Sum yes = sum();
                take("else");
                Sum no = sum();
                take("end");
                deep--;
                return (s, t, d, w) -> truth.of(s, t, d, w) == 1 ? yes.of(s, t, d, w)
                        : no.of(s, t, d, w);
            }
            String word = peek();
            if (!sees("time", "told", "device") && !(wantsLaw && sees("writer"))) {
                throw fault(2);
            }
            at++;
            switch (word) {
                case "time":
                    return (s, t, d, w) -> s.tick % 100;
                case "told":
                    return (s, t, d, w) -> t;
                case "device":
                    return (s, t, d, w) -> d;
                default:
                    return (s, t, d, w) -> w;
            }
        }

        Sum truth() throws Fault {
            Sum left = both();
            while (sees("or")) {
                at++;
                Sum a = left;
                Sum b = both();
                left = (s, t, d, w) -> Math.max(a.of(s, t, d, w), b.of(s, t, d, w));
            }
            return left;
        }

        Sum both() throws Fault {
            Sum left = unit();
            while (sees("and")) {
                at++;
                Sum a = left;
                Sum b = unit();
                left = (s, t, d, w) -> Math.min(a.of(s, t, d, w), b.of(s, t, d, w));
            }
            return left;
        }

        Sum unit() throws Fault {
            if (sees("not")) {
                open();
                Sum inner = unit();
                deep--;
                return (s, t, d, w) -> 1 - inner.of(s, t, d, w);
            }
            if (sees("[")) {
                open();
                Sum inner = truth();
                take("]");
                deep--;
                return inner;
            }
            Sum a = sum();
            if (!sees("=", "<", ">")) {
                throw fault(2);
            }
            String sign = peek();
            at++;
            Sum b = sum();
            return (s, t, d, w) -> {
                int c = Long.compare(a.of(s, t, d, w), b.of(s, t, d, w));
                return c == (sign.equals("=") ? 0 : sign.equals("<") ? -1 : 1) ? 1 : 0;
            };
        }
    }

    private final StringBuilder tape = new StringBuilder();
    private int faultKind = 0;
    private int faultPlace = -1;
    private World now = new World();
    private final Deque<World> past = new ArrayDeque<>();
    private final long[][] trays = new long[4][];
    private final int[] sorts = new int[4];
    private final World[] images = new World[2];

    // ---- the host

    public int feed(int a, int b, int c, int d, int e) {
        if (tape.length() + 20 > 900) {
            return -5;
        }
        for (int v : new int[] {a, b, c, d, e}) {
            tape.append((char) (v >>> 24)).append((char) (v >>> 16 & 255));
            tape.append((char) (v >>> 8 & 255)).append((char) (v & 255));
        }
        return tape.length();
    }

    public int host(int n) {
        if (n < 0 || n > tape.length()) {
            return -3;
        }
        String text = tape.substring(0, n);
        tape.setLength(0);
        try {
            now = new Parser(text).parse();
        } catch (Fault f) {
            faultKind = f.kind;
            faultPlace = f.place;
            return -30 - f.kind;
        }
        faultKind = 0;
        faultPlace = -1;
        past.clear();
        return now.lines;
    }

    public int fault(int what) {
        return what == 0 ? faultKind : what == 1 ? faultPlace : -1;
    }

    public int set(int what) {
        int[] all = {now.limit, now.background, now.age, now.pause, now.window, now.chunk, now.queue,
            now.free()};
        return what < 0 || what > 7 ? -2 : all[what];
    }

    public long device(int d, int what) {
        if (d < 0 || d >= now.devices.size() || what < 0 || what > 8) {
            return -2;
        }
        Device v = now.devices.get(d);
        long[] all = {v.speed, v.flight, now.dirtyOn(d), v.credit, (long) (v.estimate * 1000.0), v.count,
            now.share(d), v.wrote, v.windowed};
        return all[what];
    }

    public int file(int f, int what) {
        if (f < 0 || f >= now.files.size() || what < 0 || what > 3) {
            return -2;
        }
        Paper p = now.files.get(f);
        int[] all = {p.device, p.dirty, p.dirty == 0 ? -1 : now.tick - p.since, now.old(p) ? 1 : 0};
        return all[what];
    }

    public int writer(int w, int what) {
        if (w < 0 || w >= now.writers.size() || what < 0 || what > 5) {
            return -2;
        }
        Pen p = now.writers.get(w);
        int[] all = {p.file, p.wants, p.pause, p.last, p.made, p.held};
        return all[what];
    }

    public int next(int d) {
        if (d < 0 || d >= now.devices.size()) {
            return -2;
        }
        int f = now.nextOf(d);
        return f >= 100 ? f - 100 : f;
    }

    public int pause(int w, int x) {
        if (w < 0 || w >= now.writers.size()) {
            return -2;
        }
        if (x < 1 || x > 99) {
            return -3;
        }
        return now.all() > now.free() ? now.pauseOf(w, x) : 0;
    }

    // ---- deeds

    private void keep(World before) {
        past.push(before);
        if (past.size() > 10) {
            past.removeLast();
        }
    }

    private boolean deed(World world, long v) {
        if (v >= 1 && v <= 99) {
            world.ticks((int) v);
            return true;
        }
        if (v >= 10000 && v <= 13999) {
            int d = (int) (v - 10000) / 1000;
            if (d < world.devices.size()) {
                world.devices.get(d).speed = (int) (v - 10000) % 1000;
                return true;
            }
        }
        if (v >= 20000 && v <= 20599) {
            int w = (int) (v - 20000) / 100;
            if (w < world.writers.size()) {
                world.writers.get(w).wants = (int) (v - 20000) % 100;
                return true;
            }
        }
        return false;
    }

    public int ticks(int n) {
        if (n < 1 || n > 999) {
            return -3;
        }
        keep(now.copy());
        int was = now.wrote();
        now.ticks(n);
        return now.wrote() - was;
    }

    public int speed(int d, int n) {
        if (d < 0 || d >= now.devices.size() || n < 0 || n > 999) {
            return -11;
        }
        keep(now.copy());
        int was = now.devices.get(d).speed;
        now.devices.get(d).speed = n;
        return was;
    }

    public int wants(int w, int n) {
        if (w < 0 || w >= now.writers.size() || n < 0 || n > 99) {
            return -11;
        }
        keep(now.copy());
        int was = now.writers.get(w).wants;
        now.writers.get(w).wants = n;
        return was;
    }

    public int undo(int n) {
        if (n < 1 || n > 10 || n > past.size()) {
            return -3;
        }
        for (int i = 0; i < n; i++) {
            now = past.pop();
        }
        return past.size();
    }

    public int judge(int tray, int what) {
        if (tray < 0 || tray > 3 || what < 0 || what > 3) {
            return -2;
        }
        if (trays[tray] == null) {
            return -6;
        }
        World world = now.copy();
        int place = -1;
        for (int i = 0; i < trays[tray].length && place < 0; i++) {
            if (!deed(world, trays[tray][i])) {
                place = i;
            }
        }
        return what == 0 ? place : what == 1 ? (place < 0 ? 0 : 1) : what == 2 ? world.all() : world.tick;
    }

    public int perform(int tray) {
        if (tray < 0 || tray > 3) {
            return -2;
        }
        if (trays[tray] == null) {
            return -6;
        }
        World before = now.copy();
        int done = 0;
        while (done < trays[tray].length && deed(now, trays[tray][done])) {
            done++;
        }
        if (done > 0) {
            keep(before);
        }
        return done;
    }

    public int load(int seed, int times) {
        if (times < 1 || times > 20) {
            return -3;
        }
        int[] x = {seed};
        java.util.function.IntSupplier draw = () -> (x[0] = 1103515245 * x[0] + 12345) >>> 16;
        World before = now.copy();
        int done = 0;
        for (int i = 0; i < times; i++) {
            long v;
            switch (draw.getAsInt() % 4) {
                case 0:
                case 1:
                    v = 1 + draw.getAsInt() % 9;
                    break;
                case 2:
                    v = 10000 + 1000 * (draw.getAsInt() % 4);
                    v += draw.getAsInt() % 1000;
                    break;
                default:
                    v = 20000 + 100 * (draw.getAsInt() % 6);
                    v += draw.getAsInt() % 20;
                    break;
            }
            done += deed(now, v) ? 1 : 0;
        }
        if (done > 0) {
            keep(before);
        }
        return done;
    }

    // ---- going

    private World after(int n) {
        World world = now.copy();
        world.ticks(n);
        return world;
    }

    public int later(int n, int what) {
        if (what < 0 || what > 4) {
            return -2;
        }
        if (n < 0 || n > 999) {
            return -3;
        }
        World world = after(n);
        int[] all = {world.all(), world.dirty(), world.flight(), world.wrote() - now.wrote(),
            world.made() - now.made()};
        return all[what];
    }

    public int passes(int k) {
        if (k < 0 || k > 999) {
            return -3;
        }
        World world = now.copy();
        int n = 0;
        while (world.all() <= k) {
            world.ticks(1);
            n++;
            if (n > 999) {
                return -1;
            }
        }
        return n;
    }

    public int oldest(int n) {
        if (n < 1 || n > 999) {
            return -3;
        }
        World world = now.copy();
        int oldest = -1;
        for (int i = 0; i < n; i++) {
            world.ticks(1);
            for (Paper f : world.files) {
                if (f.dirty > 0 && world.tick - f.since > oldest) {
                    oldest = world.tick - f.since;
                }
            }
        }
        return oldest;
    }

    public int drains() {
        World world = now.copy();
        world.nobodyWrites = true;
        int n = 0;
        while (world.all() != 0) {
            world.ticks(1);
            n++;
            if (n > 999) {
                return -1;
            }
        }
        return n;
    }

    public int written(int d, int k) {
        if (d < 0 || d >= now.devices.size()) {
            return -2;
        }
        if (k < 1 || k > 9999) {
            return -3;
        }
        World world = now.copy();
        int n = 0;
        while (world.devices.get(d).wrote - now.devices.get(d).wrote < k) {
            world.ticks(1);
            n++;
            if (n > 999) {
                return -1;
            }
        }
        return n;
    }

    public int starved(int d, int n) {
        if (d < 0 || d >= now.devices.size()) {
            return -2;
        }
        if (n < 1 || n > 999) {
            return -3;
        }
        World world = now.copy();
        int many = 0;
        for (int i = 0; i < n; i++) {
            world.ticks(1);
            many += world.devices.get(d).flight == 0 && world.dirtyOn(d) > 0 ? 1 : 0;
        }
        return many;
    }

    // ---- fair

    private static long fraction(long above, long below, int what) {
        BigInteger a = BigInteger.valueOf(above);
        BigInteger b = BigInteger.valueOf(below);
        BigInteger g = a.gcd(b);
        return (what == 0 ? a : b).divide(g).longValueExact();
    }

    public long fair(int n, int what) {
        if (what < 0 || what > 1) {
            return -2;
        }
        if (n < 1 || n > 999) {
            return -3;
        }
        World world = after(n);
        long sum = 0;
        long squares = 0;
        for (int w = 0; w < now.writers.size(); w++) {
            long v = world.writers.get(w).made - now.writers.get(w).made;
            sum += v;
            squares += v * v;
        }
        return sum == 0 ? -1 : fraction(sum * sum, now.writers.size() * squares, what);
    }

    public int most(int n, int what) {
        if (what < 0 || what > 2) {
            return -2;
        }
        if (n < 1 || n > 999) {
            return -3;
        }
        World world = after(n);
        int best = -1;
        int greatest = -1;
        int fewest = now.writers.isEmpty() ? -1 : Integer.MAX_VALUE;
        for (int w = 0; w < now.writers.size(); w++) {
            int v = world.writers.get(w).made - now.writers.get(w).made;
            if (v > greatest) {
                greatest = v;
                best = w;
            }
            fewest = Math.min(fewest, v);
        }
        return what == 0 ? best : what == 1 ? greatest : fewest;
    }

    public int held(int n) {
        return n < 1 || n > 999 ? -3 : after(n).held() - now.held();
    }

    public int enough(int n) {
        if (n < 1 || n > 99) {
            return -3;
        }
        for (int limit = now.background + 1; limit <= 999; limit++) {
            World world = now.copy();
            world.limit = limit;
            world.ticks(n);
            if (world.held() == now.held()) {
                return limit;
            }
        }
        return -1;
    }

    public int bears(int w, int n) {
        if (w < 0 || w >= now.writers.size()) {
            return -2;
        }
        if (n < 1 || n > 99) {
            return -3;
        }
        for (int v = 99; v >= 0; v--) {
            World world = now.copy();
            world.writers.get(w).wants = v;
            world.ticks(n);
            if (world.writers.get(w).held == now.writers.get(w).held) {
                return v;
            }
        }
        return -1;
    }

    // ---- wrote

    private static int span(World world, int d) {
        int was = world.devices.get(d).wrote;
        world.ticks(10);
        return world.devices.get(d).wrote - was;
    }

    public int speeds(int tray, int d, int what) {
        if (tray < 0 || tray > 3 || d < 0 || d >= now.devices.size() || what < 0 || what > 2) {
            return -2;
        }
        if (trays[tray] == null) {
            return -6;
        }
        if (trays[tray].length < 1 || trays[tray].length > 8) {
            return -4;
        }
        for (long v : trays[tray]) {
            if (v < 0) {
                return -3;
            }
        }
        List<Integer> fit = new ArrayList<>();
        for (int speed = 0; speed <= 999; speed++) {
            World world = now.copy();
            world.devices.get(d).speed = speed;
            world.lawless = d;
            boolean same = true;
            for (int i = 0; i < trays[tray].length && same; i++) {
                same = span(world, d) == trays[tray][i];
            }
            if (same) {
                fit.add(speed);
            }
        }
        if (what == 0) {
            return fit.size();
        }
        return fit.isEmpty() ? -1 : fit.get(what == 1 ? 0 : fit.size() - 1);
    }

    public int busiest(int d) {
        if (d < 0 || d >= now.devices.size()) {
            return -2;
        }
        World world = now.copy();
        int best = -1;
        int greatest = -1;
        for (int i = 0; i < 8; i++) {
            int v = span(world, d);
            if (v > greatest) {
                greatest = v;
                best = i;
            }
        }
        return best;
    }

    // ---- stalls

    /** ALL behind each of the draws of n lots, one by one. */
    private int[] stalls(int n) {
        int ways = n == 1 ? 10 : n == 2 ? 100 : 1000;
        int[] all = new int[ways];
        for (int way = 0; way < ways; way++) {
            World world = now.copy();
            int left = way;
            for (int i = 0; i < n; i++) {
                world.stalled = left % 10;
                left /= 10;
                world.ticks(10);
            }
            all[way] = world.all();
        }
        return all;
    }

    public int chance(int k, int n, int what) {
        if (what < 0 || what > 1) {
            return -2;
        }
        if (k < 1 || k > 1000 || n < 1 || n > 3) {
            return -3;
        }
        int[] all = stalls(n);
        int below = 0;
        for (int v : all) {
            below += v < k ? 1 : 0;
        }
        return (int) fraction(below, all.length, what);
    }

    public int mean(int n, int what) {
        if (what < 0 || what > 1) {
            return -2;
        }
        if (n < 1 || n > 3) {
            return -3;
        }
        int[] all = stalls(n);
        int sum = 0;
        for (int v : all) {
            sum += v;
        }
        return (int) fraction(sum, all.length, what);
    }

    // ---- trays, images

    public int numbers(int tray, int sort, int n) {
        if (tray < 0 || tray > 3 || sort < 0 || sort > 3) {
            return -2;
        }
        if (n < 0 || n > 40) {
            return -3;
        }
        trays[tray] = new long[n];
        sorts[tray] = sort;
        return 0;
    }

    private static long cut(long v, int sort) {
        int gone = 64 - (8 << sort);
        return v << gone >> gone;
    }

    public long write(int tray, int i, long v) {
        if (tray < 0 || tray > 3) {
            return -2;
        }
        if (trays[tray] == null) {
            return -6;
        }
        if (i < 0 || i >= trays[tray].length) {
            return -7;
        }
        trays[tray][i] = cut(v, sorts[tray]);
        return trays[tray][i];
    }

    public int lists(int tray, int d) {
        if (tray < 0 || tray > 3 || d < 0 || d >= now.devices.size()) {
            return -2;
        }
        if (trays[tray] == null) {
            return -6;
        }
        World world = now.copy();
        for (int i = 0; i < trays[tray].length; i++) {
            trays[tray][i] = cut(span(world, d), sorts[tray]);
        }
        return trays[tray].length;
    }

    public int image(int i) {
        if (i < 0 || i > 1) {
            return -2;
        }
        images[i] = now.copy();
        return 0;
    }

    public int restore(int i) {
        if (i < 0 || i > 1) {
            return -2;
        }
        if (images[i] == null) {
            return -5;
        }
        now = images[i].copy();
        past.clear();
        return 0;
    }

    public int count(int what) {
        int[] all = {now.devices.size(), now.files.size(), now.writers.size(), now.tick, now.all(), now.dirty(),
            now.made(), now.wrote(), past.size(), tape.length(), now.lines};
        return what < 0 || what > 10 ? -1 : all[what];
    }
}
