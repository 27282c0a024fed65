import java.lang.reflect.Method;
import java.util.ArrayList;
import java.util.Arrays;
import java.util.Comparator;
import java.util.List;
import java.util.Random;

/**
 * Random runs of calls, each on a WriterPace and on the Model, which must answer alike. The first
 * argument, if there is one, is how many runs, the second one the seed.
 */
public final class RandomRunsTest {
    private static final int CALLS = 160;

    private final Random random;
    private final AnyText texts;
    private final Method[] calls;
    private final Method[] modelCalls;
    private WriterPace pace;
    private Model model;
    private final StringBuilder story = new StringBuilder();
    private boolean differs;

    private RandomRunsTest(long seed) throws Exception {
        random = new Random(seed);
        texts = new AnyText(random);
        List<Method> found = new ArrayList<>();
        for (Method m : WriterPace.class.getDeclaredMethods()) {
            if (java.lang.reflect.Modifier.isPublic(m.getModifiers())) {
                found.add(m);
            }
        }
        found.sort(Comparator.comparing(Method::getName));
        calls = found.toArray(new Method[0]);
        modelCalls = new Method[calls.length];
        for (int i = 0; i < calls.length; i++) {
            modelCalls[i] = Model.class.getMethod(calls[i].getName(), calls[i].getParameterTypes());
        }
    }

    public static void main(String[] args) throws Exception {
        int runs = args.length > 0 ? Integer.parseInt(args[0]) : 100;
        long seed = args.length > 1 ? Long.parseLong(args[1]) : 20261118;
        RandomRunsTest test = new RandomRunsTest(seed);
        Check.due("how many calls the face has", test.calls.length, 37);
        int bad = 0;
        for (int run = 0; run < runs && bad < 5; run++) {
            bad += test.run() ? 0 : 1;
        }
        Check.due("runs that differ", bad, 0);
        Check.end();
    }

    private boolean run() throws Exception {
        pace = new WriterPace();
        model = new Model();
        story.setLength(0);
        differs = false;
        int made = 0;
        while (made < CALLS && !differs) {
            int sort = random.nextInt(40);
            if (made == 0 && random.nextInt(12) > 0 || sort == 0) {
                tellText();
                made += 3;
            } else if (sort == 1) {
                fillTray();
                made += 8;
            } else if (sort == 2) {
                listAndFit();
                made += 4;
            } else {
                callAny();
                made++;
            }
        }
        if (differs) {
            System.out.println(story);
        }
        return !differs;
    }

    private void call(String name, Object... args) throws Exception {
        for (int i = 0; i < calls.length && !differs; i++) {
            if (calls[i].getName().equals(name)) {
                long got = ((Number) calls[i].invoke(pace, args)).longValue();
                long want = ((Number) modelCalls[i].invoke(model, args)).longValue();
                story.append(name).append(Arrays.toString(args)).append(" -> ").append(got);
                differs = got != want;
                story.append(differs ? " but due is " + want : "").append('\n');
            }
        }
    }

    // ---- texts

    private void tellText() throws Exception {
        String text = random.nextInt(4) == 0 ? texts.spoilt(texts.any()) : texts.any();
        byte[] b = Texts.bytes(text);
        story.append('<').append(text).append(">\n");
        for (int at = 0; at < b.length; at += 20) {
            int[] v = Texts.bytesAt(b, at);
            call("feed", v[0], v[1], v[2], v[3], v[4]);
        }
        call("host", b.length);
        call("fault", 0);
        call("fault", 1);
    }

    private int between(int least, int greatest) {
        return texts.between(least, greatest);
    }

    private int oneOf(int... any) {
        return texts.oneOf(any);
    }

    // ---- calls

    private long anyDeed() {
        switch (random.nextInt(8)) {
            case 0:
                return 10000 + 1000 * random.nextInt(4) + oneOf(0, 100, 999, between(0, 999));
            case 1:
                return 20000 + 100 * random.nextInt(6) + oneOf(0, 1, 5, 99);
            case 2:
                return random.nextInt(3) > 0 ? 3 : oneOf(0, 100, -1, 9999, 14000, 20600, 30000);
            default:
                return between(1, oneOf(9, 9, 99));
        }
    }

    private void fillTray() throws Exception {
        int tray = random.nextInt(4);
        int n = oneOf(0, 1, 3, 5);
        call("numbers", tray, oneOf(1, 2, 2, 3), n);
        for (int i = 0; i < n; i++) {
            call("write", tray, i, anyDeed());
        }
        for (int what = 0; what < 4; what++) {
            call("judge", tray, what);
        }
        if (random.nextInt(3) > 0) {
            call("perform", tray);
        }
    }

    private void listAndFit() throws Exception {
        int tray = random.nextInt(4);
        int d = anyOf(0);
        call("numbers", tray, random.nextInt(4), oneOf(1, 2, 3, 8, 9, 40));
        call("lists", tray, d);
        if (random.nextBoolean()) {
            call("write", tray, random.nextInt(3), (long) between(-1, 60));
        }
        call("speeds", tray, d, random.nextInt(3));
        call("judge", tray, random.nextInt(4));
    }

    private void callAny() throws Exception {
        Method m = calls[random.nextInt(calls.length)];
        String name = m.getName();
        if (name.equals("feed") || name.equals("restore") && random.nextInt(3) > 0) {
            return;
        }
        // These try hundreds of goings on the plain model: a few are plenty.
        if ((name.equals("enough") || name.equals("speeds")) && random.nextInt(3) > 0) {
            return;
        }
        if (name.equals("host") && random.nextInt(6) > 0) {
            return;
        }
        Object[] args = new Object[m.getParameterCount()];
        for (int i = 0; i < args.length; i++) {
            args[i] = anyArgument(name, i);
            if (m.getParameterTypes()[i] == long.class) {
                args[i] = random.nextBoolean() ? anyDeed() : random.nextLong();
            }
        }
        call(name, args);
    }

    /** One of what count(what) counts, now and then one too many. */
    private int anyOf(int what) {
        return random.nextInt(Math.max(1, model.count(what)) + (random.nextInt(15) == 0 ? 1 : 0));
    }

    private int anyArgument(String name, int i) {
        if (random.nextInt(40) == 0) {
            return oneOf(-1, 0, 1, 2, 4, 6, 10, 11, 12, 20, 21, 40, 99, 100, 999, 1000, 9999, 10000,
                    Integer.MIN_VALUE, Integer.MAX_VALUE, random.nextInt());
        }
        switch (name) {
            case "host":
                return between(-1, 3);
            case "fault":
            case "image":
            case "restore":
                return between(0, 1);
            case "set":
                return between(0, 7);
            case "device":
                return i == 0 ? anyOf(0) : between(0, 8);
            case "file":
                return i == 0 ? anyOf(1) : between(0, 3);
            case "writer":
                return i == 0 ? anyOf(2) : between(0, 5);
            case "next":
            case "busiest":
                return anyOf(0);
            case "pause":
                return i == 0 ? anyOf(2) : between(1, 99);
            case "ticks":
                return between(1, oneOf(3, 20, 200));
            case "speed":
                return i == 0 ? anyOf(0) : oneOf(0, 999, between(0, 400));
            case "wants":
                return i == 0 ? anyOf(2) : oneOf(0, 1, 4, between(0, 99));
            case "undo":
                return between(1, 4);
            case "load":
                return i == 0 ? random.nextInt() : between(1, 20);
            case "later":
                return i == 0 ? oneOf(0, 1, between(0, 200)) : between(0, 4);
            case "passes":
                return oneOf(0, between(0, 30), between(0, 999));
            case "written":
                return i == 0 ? anyOf(0) : oneOf(1, between(1, 50), between(1, 9999));
            case "starved":
                return i == 0 ? anyOf(0) : between(1, 200);
            case "fair":
                return i == 0 ? between(1, 200) : between(0, 1);
            case "most":
                return i == 0 ? between(1, 200) : between(0, 2);
            case "enough":
                return oneOf(1, 3, between(1, 99));
            case "bears":
                return i == 0 ? anyOf(2) : oneOf(1, 3, between(1, 99));
            case "speeds":
                return i == 0 ? between(0, 3) : i == 1 ? anyOf(0) : between(0, 2);
            case "chance":
                return i == 0 ? oneOf(1, between(1, 30), between(1, 1000)) : i == 1 ? oneOf(1, 1, 1, 2, 2, 3)
                        : between(0, 1);
            case "mean":
                return i == 0 ? oneOf(1, 1, 1, 2, 2, 3) : between(0, 1);
            case "numbers":
                return i == 0 ? between(0, 3) : i == 1 ? between(0, 3) : between(0, 40);
            case "write":
                return i == 0 ? between(0, 3) : between(0, 5);
            case "count":
                return between(0, 10);
            case "oldest":
            case "held":
                return between(1, 200);
            case "lists":
                return i == 0 ? between(0, 3) : anyOf(0);
            default:
                return between(0, 3);
        }
    }
}
