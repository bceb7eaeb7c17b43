import java.io.IOException;
import java.lang.reflect.Array;
import java.lang.reflect.Constructor;
import java.lang.reflect.Field;
import java.lang.reflect.Method;
import java.lang.reflect.Modifier;
import java.nio.file.Files;
import java.nio.file.Path;
import java.util.Arrays;
import java.util.IdentityHashMap;
import java.util.Map;
import java.util.Set;
import java.util.TreeSet;
import java.util.regex.Matcher;
import java.util.regex.Pattern;

/** What can be seen by a machine of ../shared/LANGUAGE.md, and how much room an object takes. */
public final class LanguageRulesTest {
    private static final Path SOURCE = Path.of("src/main/java/FreightYards.java");
    private static final Set<String> FACE = new TreeSet<>(Arrays.asList("feed", "load", "fault", "run", "told", "said",
        "state", "tick", "vehicle", "track", "place", "train", "count"));

    public static void main(String[] args) throws IOException, IllegalAccessException {
        Yards.fresh("rules");
        String code = withoutTexts(Files.readString(SOURCE));
        hasNone(code, "\\b(throw|throws|try|catch|finally|synchronized|assert|import|package|volatile|native)\\b");
        hasNone(code, "->|::");
        hasNone(code, "\\bstatic\\s*\\{");
        hasNone(code, "\\b(System\\.(?!arraycopy)\\w+|Thread|Random|Object|hashCode|toString|getClass)\\b");
        hasNone(code, "\"\"\\s*\\+|\\+\\s*\"\"");
        hasNone(code, "\\bwhile\\s*\\(\\s*true\\s*\\)|\\bfor\\s*\\(\\s*;");
        hasNone(code, "\\w+Exact\\b");
        face();
        Class<?>[] inside = FreightYards.class.getDeclaredClasses();
        Yards.due("at most twelve classes", true, inside.length + 1 <= 12);
        for (Class<?> c : inside) {
            inside(c);
        }
        fields(FreightYards.class);
        methodsAreShort(code);
        room();
        Yards.end();
    }

    /** Comments and the insides of texts hold what the code may not. */
    private static String withoutTexts(String source) {
        return source.replaceAll("(?s)/\\*.*?\\*/", "").replaceAll("//[^\n]*", "").replaceAll("\"[^\"\n]*\"", "\"\"");
    }

    private static void hasNone(String code, String what) {
        Matcher m = Pattern.compile(what).matcher(code);
        boolean found = m.find();
        Yards.due("none of " + what + (found ? " (found: " + m.group() + ")" : ""), false, found);
    }

    private static void face() {
        Set<String> seen = new TreeSet<>();
        for (Method m : FreightYards.class.getDeclaredMethods()) {
            boolean isPublic = Modifier.isPublic(m.getModifiers());
            Yards.due(m + " is public or private", true, isPublic || Modifier.isPrivate(m.getModifiers()));
            Yards.due(m + " is of the face", isPublic, FACE.contains(m.getName()));
            seen.add(m.getName());
        }
        Yards.due("the whole face", true, seen.containsAll(FACE));
        Constructor<?>[] made = FreightYards.class.getDeclaredConstructors();
        Yards.due("one constructor", 1, made.length);
        Yards.due("it is public", true, Modifier.isPublic(made[0].getModifiers()));
        Yards.due("it takes nothing", 0, made[0].getParameterCount());
        for (Field f : FreightYards.class.getDeclaredFields()) {
            boolean isNone = f.getName().equals("NONE");
            Yards.due(f + " is public", isNone, Modifier.isPublic(f.getModifiers()));
            Yards.due(f + " is private", !isNone, Modifier.isPrivate(f.getModifiers()));
        }
    }

    private static void inside(Class<?> c) {
        Yards.due(c + " is static", true, Modifier.isStatic(c.getModifiers()));
        for (Method m : c.getDeclaredMethods()) {
            Yards.due(m + " bears a name of the face", false, FACE.contains(m.getName()));
            Yards.due(m + " takes seven at most", true, m.getParameterCount() <= 7);
        }
        fields(c);
    }

    private static void fields(Class<?> c) {
        int own = 0;
        for (Field f : c.getDeclaredFields()) {
            boolean isStatic = Modifier.isStatic(f.getModifiers());
            own += isStatic ? 0 : 1;
            Yards.due(f + " is final if it is static", true, !isStatic || Modifier.isFinal(f.getModifiers()));
        }
        Yards.due(c + " has twenty fields at most", true, own <= 20);
    }

    private static void methodsAreShort(String code) {
        String[] lines = code.split("\n");
        int start = -1;
        for (int i = 0; i < lines.length; i++) {
            if (lines[i].matches("(    |        )[a-z].*\\) \\{")) {
                start = i;
            }
            if (start >= 0 && lines[i].matches("(    |        )\\}")) {
                Yards.due("sixty lines at most from line " + start, true, i - start < 60);
                start = -1;
            }
        }
    }

    /** All that is reachable, fields and elements; many objects must fit into one room. */
    private static void room() throws IllegalAccessException {
        Map<Object, Boolean> seen = new IdentityHashMap<>();
        long fresh = size(new FreightYards(), seen);
        System.out.println("a new object: " + seen.size() + " objects and arrays, " + fresh + " fields and elements");
        Yards.due("a new object is small", true, fresh < 20000 && seen.size() < 60);
        seen = new IdentityHashMap<>();
        long full = size(full(), seen);
        System.out.println("a full object: " + seen.size() + " objects and arrays, " + full + " fields and elements");
        Yards.due("a full object is small", true, full < 30000 && seen.size() < 1000);
    }

    /** All vehicles, rows, places, trains and all that is said. */
    private static FreightYards full() {
        FreightYards x = Yards.fresh("a full object");
        Yards.loaded(x, "to v(INT n) { while (0 < n) { say new BOX(); n = n - 1; } } "
            + "to r(INT n) { while (0 < n) { send(new BOX[10], 1, 1); n = n - 1; } }");
        for (int i = 0; i < 2; i++) {
            x.run(0, 150, 0, 2000);
            x.run(1, 100, 0, 2000);
        }
        int[] due = {2, 300, 200, 2000, 10, 0, 0, 300};
        for (int what = 0; what < due.length; what++) {
            Yards.due("count(" + what + ")", due[what], x.count(what));
        }
        return x;
    }

    private static long size(Object o, Map<Object, Boolean> seen) throws IllegalAccessException {
        if (o == null || o instanceof String || seen.put(o, true) != null) {
            return 0;
        }
        long size = 0;
        if (o.getClass().isArray()) {
            size = Array.getLength(o);
            for (int i = 0; i < Array.getLength(o) && !o.getClass().getComponentType().isPrimitive(); i++) {
                size += size(Array.get(o, i), seen);
            }
            return size;
        }
        for (Field f : o.getClass().getDeclaredFields()) {
            if (!Modifier.isStatic(f.getModifiers())) {
                f.setAccessible(true);
                size += 1 + (f.getType().isPrimitive() ? 0 : size(f.get(o), seen));
            }
        }
        return size;
    }
}
