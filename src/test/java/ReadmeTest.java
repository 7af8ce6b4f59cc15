import java.io.IOException;
import java.lang.reflect.InvocationTargetException;
import java.lang.reflect.Method;
import java.lang.reflect.Modifier;
import java.nio.file.Files;
import java.nio.file.Path;
import java.util.ArrayList;
import java.util.List;
import java.util.regex.Matcher;
import java.util.regex.Pattern;

/** What README.md shows of the class is called in its order: each answer that it writes behind a call must be due. */
public final class ReadmeTest {
    private static final Due DUE = new Due();
    private static final Pattern CALL = Pattern.compile("x\\.(\\w+)\\((.*)\\);\\s*// (-?\\d+|true|false)\\b.*");
    private static final Pattern FED = Pattern.compile("text\\(x, \"(.*)\"\\)");

    public static void main(String[] args) throws IOException, ReflectiveOperationException {
        boolean isCode = false;
        NightCarts x = null;
        List<String> called = new ArrayList<>();
        for (String line : Files.readAllLines(Path.of("README.md"))) {
            if (line.startsWith("```")) {
                isCode = line.equals("```java");
            } else if (isCode && line.equals("NightCarts x = new NightCarts();")) {
                x = new NightCarts();
            } else if (isCode && line.startsWith("x.")) {
                called.add(call(x, line));
            }
        }
        for (Method method : NightCarts.class.getDeclaredMethods()) {
            if (Modifier.isPublic(method.getModifiers())) {
                DUE.is("README shows " + method.getName(), called.contains(method.getName()), true);
            }
        }
        DUE.end();
    }

    private static String call(NightCarts x, String line) throws IllegalAccessException, InvocationTargetException {
        Matcher parts = CALL.matcher(line);
        if (!parts.matches() || x == null) {
            DUE.is("README: a call with its answer: " + line, false, true);
            return "";
        }
        Object[] worths = worthsOf(x, parts.group(2));
        for (Method method : NightCarts.class.getDeclaredMethods()) {
            if (method.getName().equals(parts.group(1)) && method.getParameterCount() == worths.length) {
                DUE.is("README: " + line, asNumber(method.invoke(x, worths)), asNumber(parts.group(3)));
                return method.getName();
            }
        }
        DUE.is("README: there is such a call: " + line, false, true);
        return "";
    }

    private static long asNumber(Object answer) {
        String text = String.valueOf(answer);
        return text.equals("true") ? 1 : text.equals("false") ? 0 : Long.parseLong(text);
    }

    /** Numbers with commas between; the last one may be how many bytes a text has that is fed first. */
    private static Object[] worthsOf(NightCarts x, String text) {
        List<Object> worths = new ArrayList<>();
        String rest = text.trim();
        while (!rest.isEmpty()) {
            Matcher fed = FED.matcher(rest);
            if (fed.matches()) {
                worths.add(Due.text(x, fed.group(1)));
                return worths.toArray();
            }
            int comma = rest.indexOf(',');
            String first = comma < 0 ? rest : rest.substring(0, comma);
            worths.add(first.startsWith("0b") ? Integer.parseInt(first.substring(2), 2) : Integer.decode(first));
            rest = comma < 0 ? "" : rest.substring(comma + 1).trim();
        }
        return worths.toArray();
    }
}
