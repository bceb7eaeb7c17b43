import java.io.IOException;
import java.lang.reflect.Method;
import java.nio.file.Files;
import java.nio.file.Path;
import java.util.regex.Matcher;
import java.util.regex.Pattern;

/** README.md shows a text and calls with their answers: these are the ones that are made here. */
public final class ReadmeTest {
    private static final Pattern CALL = Pattern.compile("(?m)^(?:yards\\.)?(\\w+)\\(([^)]*)\\); +// (-?\\w+) ");
    private static final int LEAST_CALLS = 10;

    public static void main(String[] args) throws IOException, ReflectiveOperationException {
        String page = Files.readString(Path.of("README.md"));
        String text = block(page, "text", "to ");
        FreightYards x = Yards.fresh("README.md");
        Matcher calls = CALL.matcher(block(page, "java", "FreightYards yards = new"));
        int made = 0;
        while (calls.find()) {
            String call = calls.group(1) + "(" + calls.group(2) + ")";
            Yards.due(call, true, calls.group(3).equals(answer(x, calls.group(1), calls.group(2), text)));
            made++;
        }
        Yards.due("the page shows calls", true, made >= LEAST_CALLS);
        Yards.end();
    }

    /** What stands in the block of a sign that begins with these words. */
    private static String block(String page, String sign, String words) {
        String opening = "```" + sign + "\n";
        int start = page.indexOf(opening + words) + opening.length();
        return page.substring(start, page.indexOf("```", start));
    }

    private static String answer(FreightYards x, String name, String list, String text) throws ReflectiveOperationException {
        if (name.equals("load")) {
            return "" + Yards.load(x, text);
        }
        String[] written = list.split(", ");
        Object[] values = new Object[written.length];
        Class<?>[] types = new Class<?>[written.length];
        for (int i = 0; i < written.length; i++) {
            values[i] = Integer.valueOf(written[i]);
            types[i] = int.class;
        }
        Method method = FreightYards.class.getMethod(name, types);
        return "" + method.invoke(x, values);
    }
}
