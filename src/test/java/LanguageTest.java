import java.lang.reflect.Constructor;
import java.lang.reflect.Field;
import java.lang.reflect.Method;
import java.lang.reflect.Modifier;
import java.nio.file.Files;
import java.nio.file.Path;
import java.util.Set;
import java.util.TreeSet;

/** What can be seen from outside of the rules of LANGUAGE.md, and the face of the document. */
public final class LanguageTest {
    private static final String FACE = "feed(int,int,int,int,int)int host(int)int fault(int)int set(int)int "
            + "device(int,int)long file(int,int)int writer(int,int)int next(int)int pause(int,int)int ticks(int)int "
            + "speed(int,int)int wants(int,int)int undo(int)int judge(int,int)int perform(int)int load(int,int)int "
            + "later(int,int)int passes(int)int oldest(int)int drains()int written(int,int)int starved(int,int)int "
            + "fair(int,int)long most(int,int)int held(int)int enough(int)int bears(int,int)int "
            + "speeds(int,int,int)int busiest(int)int chance(int,int,int)int mean(int,int)int "
            + "numbers(int,int,int)int write(int,int,long)long lists(int,int)int image(int)int restore(int)int "
            + "count(int)int";

    public static void main(String[] args) throws Exception {
        face();
        for (Class<?> c : WriterPace.class.getDeclaredClasses()) {
            inside(c);
        }
        Check.holds("at most twelve classes", WriterPace.class.getDeclaredClasses().length < 12);
        source(Files.readString(Path.of("src/main/java/WriterPace.java")));
        Check.end();
    }

    private static String signature(Method m) {
        StringBuilder text = new StringBuilder(m.getName()).append('(');
        String comma = "";
        for (Class<?> p : m.getParameterTypes()) {
            text.append(comma).append(p.getName());
            comma = ",";
        }
        return text.append(')').append(m.getReturnType().getName()).toString();
    }

    private static void face() {
        Set<String> due = new TreeSet<>(Set.of(FACE.split(" ")));
        Set<String> found = new TreeSet<>();
        Set<String> names = new TreeSet<>();
        for (Method m : WriterPace.class.getDeclaredMethods()) {
            if (Modifier.isPublic(m.getModifiers())) {
                found.add(signature(m));
                names.add(m.getName());
            }
        }
        Check.holds("the face: " + found, due.equals(found));
        for (Method m : WriterPace.class.getDeclaredMethods()) {
            boolean open = Modifier.isPublic(m.getModifiers());
            Check.holds("private: " + m, open || Modifier.isPrivate(m.getModifiers()));
            Check.holds("no other method of a public name: " + m, open || !names.contains(m.getName()));
            Check.holds("throws nothing: " + m, m.getExceptionTypes().length == 0);
        }
        for (Field f : WriterPace.class.getDeclaredFields()) {
            Check.holds("private: " + f, f.getName().equals("NONE") || Modifier.isPrivate(f.getModifiers()));
        }
        Constructor<?>[] made = WriterPace.class.getDeclaredConstructors();
        Check.holds("one constructor", made.length == 1 && made[0].getParameterCount() == 0);
        Check.holds("a final class", Modifier.isFinal(WriterPace.class.getModifiers()));
        fewFields(WriterPace.class);
    }

    private static void inside(Class<?> c) {
        Check.holds("static: " + c, Modifier.isStatic(c.getModifiers()));
        Check.holds("not public: " + c, !Modifier.isPublic(c.getModifiers()));
        fewFields(c);
        for (Method m : c.getDeclaredMethods()) {
            Check.holds("at most seven parameters: " + m, m.getParameterCount() <= 7);
        }
    }

    private static void fewFields(Class<?> c) {
        int many = 0;
        for (Field f : c.getDeclaredFields()) {
            boolean still = Modifier.isStatic(f.getModifiers());
            Check.holds("static fields are final: " + f, !still || Modifier.isFinal(f.getModifiers()));
            many += still ? 0 : 1;
        }
        Check.holds("some twenty fields: " + c + " has " + many, many <= 20);
    }

    private static void source(String text) {
        for (String not : new String[] {"->", "::", "throw ", "catch", "finally", "synchronized", "assert ",
            "Exact(", "System.out", "double)", "Double.", "String.format", "\" + ", "Random", "nanoTime"}) {
            Check.holds("without " + not, !text.contains(not));
        }
        int imports = 0;
        int longest = 0;
        int since = 0;
        int at = 0;
        for (String line : text.split("\n")) {
            at++;
            imports += line.startsWith("import ") ? 1 : 0;
            if (line.matches(" {4}( {4})?[a-z].*\\(.*\\) \\{")) {
                since = at;
            }
            if (line.matches(" {4}( {4})?}")) {
                longest = Math.max(longest, since == 0 ? 0 : at - since);
                since = 0;
            }
        }
        Check.due("imports", imports, 1);
        Check.holds("Arrays alone", text.contains("import java.util.Arrays;"));
        Check.holds("methods are short, the longest: " + longest, longest > 10 && longest <= 60);
        Check.holds("new objects in constructors alone", text.indexOf("new ", text.indexOf("// ---- the host"))
                > text.indexOf("private static final class Laws"));
    }
}
