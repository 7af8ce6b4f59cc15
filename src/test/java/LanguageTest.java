import java.io.IOException;
import java.lang.reflect.Array;
import java.lang.reflect.Constructor;
import java.lang.reflect.Executable;
import java.lang.reflect.Field;
import java.lang.reflect.Method;
import java.lang.reflect.Modifier;
import java.nio.file.Files;
import java.nio.file.Path;
import java.util.ArrayList;
import java.util.Arrays;
import java.util.IdentityHashMap;
import java.util.List;
import java.util.Map;
import java.util.Set;
import java.util.TreeSet;
import java.util.regex.Matcher;
import java.util.regex.Pattern;

/** What of LANGUAGE.md can be seen from the class and its text, and the room that an object takes. */
public final class LanguageTest {
    private static final Due DUE = new Due();
    private static final String FACE = "street cart pour feed law roads plan nights tried way round share sleepful"
            + " pitAt cut strike enough oneStop out jobs load brides thieves latest keep undo check count";
    private static final int MOST_LINES = 60;
    private static final int MOST_ELEMENTS = 6000;
    private static final int MOST_OBJECTS = 120;

    public static void main(String[] args) throws IOException {
        String text = Files.readString(Path.of("src/main/java/NightCarts.java"));
        face();
        classesInside();
        words(text);
        methodsAreShort(text);
        onlyConstructorsMakeObjects(text);
        room();
        DUE.end();
    }

    private static void holds(String rule, boolean is) {
        DUE.is(rule, is, true);
    }

    private static void face() {
        Set<String> face = new TreeSet<>(Arrays.asList(FACE.split(" ")));
        Set<String> seen = new TreeSet<>();
        for (Method method : NightCarts.class.getDeclaredMethods()) {
            if (Modifier.isPrivate(method.getModifiers())) {
                holds("private " + method.getName() + " bears no public name", !face.contains(method.getName()));
            } else {
                seen.add(method.getName());
                holds("public " + method, Modifier.isPublic(method.getModifiers()) && face.contains(method.getName()));
            }
        }
        holds("the whole face", seen.equals(face));
        holds("public and final", Modifier.isPublic(NightCarts.class.getModifiers())
                && Modifier.isFinal(NightCarts.class.getModifiers()));
        for (Field field : NightCarts.class.getDeclaredFields()) {
            boolean isNone = field.getName().equals("NONE");
            holds("field " + field, isNone || Modifier.isPrivate(field.getModifiers()));
        }
        holds("one constructor", NightCarts.class.getDeclaredConstructors().length == 1);
    }

    private static void classesInside() {
        List<Class<?>> all = new ArrayList<>(Arrays.asList(NightCarts.class.getDeclaredClasses()));
        all.add(NightCarts.class);
        holds("some twelve classes", all.size() <= 12);
        Set<String> face = new TreeSet<>(Arrays.asList(FACE.split(" ")));
        for (Class<?> each : all) {
            holds(each + " is static", each == NightCarts.class || Modifier.isStatic(each.getModifiers()));
            int fields = 0;
            for (Field field : each.getDeclaredFields()) {
                boolean isStatic = Modifier.isStatic(field.getModifiers());
                fields += isStatic ? 0 : 1;
                holds(field + " is final", !isStatic || Modifier.isFinal(field.getModifiers()));
            }
            holds(each + " has some twenty fields", fields <= 20);
            List<Executable> calls = new ArrayList<>(Arrays.asList(each.getDeclaredMethods()));
            calls.addAll(Arrays.<Constructor<?>>asList(each.getDeclaredConstructors()));
            for (Executable call : calls) {
                holds(call + " takes at most seven", call.getParameterCount() <= 7);
                holds(call + " bears no public name", each == NightCarts.class || !face.contains(call.getName()));
            }
        }
    }

    private static String withoutComments(String text) {
        return text.replaceAll("(?s)/\\*.*?\\*/", "").replaceAll("//[^\n]*", "");
    }

    private static void words(String text) {
        String code = withoutComments(text);
        String ruledOut = "throw throws try catch finally synchronized assert import package native volatile transient"
                + " Object System.out System.err System.exit Thread Class Iterator hashCode toString var yield";
        for (String word : ruledOut.split(" ")) {
            holds("no " + word, !Pattern.compile("\\b" + Pattern.quote(word) + "\\b").matcher(code).find());
        }
        holds("no lambda", !code.contains("->"));
        holds("no method reference", !code.contains("::"));
        holds("no Exact", !code.contains("Exact"));
        holds("no static block", !Pattern.compile("static\\s*\\{").matcher(code).find());
        holds("no while", !Pattern.compile("\\bwhile\\b").matcher(code).find());
        holds("signs up to 126", text.chars().allMatch(c -> c == '\n' || (c >= 32 && c < 127)));
    }

    private static void methodsAreShort(String text) {
        int start = -1;
        String name = "";
        String[] lines = text.split("\n");
        for (int p = 0; p < lines.length; p++) {
            Matcher head = Pattern.compile("^(    |        )[A-Za-z].*\\).* \\{$").matcher(lines[p]);
            if (head.matches() && !lines[p].contains(" class ")) {
                start = p;
                name = lines[p].trim();
            }
            boolean isEnd = lines[p].equals("    }") || lines[p].equals("        }");
            if (isEnd && start >= 0) {
                holds(name + " is short", p - start < MOST_LINES);
            }
        }
    }

    /** The room of a run holds what all its calls make: no call makes anything. */
    private static void onlyConstructorsMakeObjects(String text) {
        for (String line : withoutComments(text).split("\n")) {
            if (Pattern.compile("\\bnew\\b").matcher(line).find()) {
                boolean isField = line.contains("private final ");
                boolean isPart = Pattern.compile("^ {8,12}[A-Za-z\\[\\] ]+( |\\[k\\] )= new [A-Z].*;$").matcher(line)
                        .matches();
                holds("made in a constructor: " + line.trim(), isField || isPart);
            }
        }
    }

    private static void room() {
        Map<Object, Boolean> seen = new IdentityHashMap<>();
        int elements = elementsOf(new NightCarts(), seen);
        holds("elements: " + elements, elements <= MOST_ELEMENTS);
        holds("objects: " + seen.size(), seen.size() <= MOST_OBJECTS);
    }

    private static int elementsOf(Object part, Map<Object, Boolean> seen) {
        if (part == null || part instanceof Number || part instanceof Boolean || seen.put(part, true) != null) {
            return 0;
        }
        int elements = 0;
        if (part.getClass().isArray()) {
            elements = Array.getLength(part);
            for (int p = 0; p < Array.getLength(part); p++) {
                elements += elementsOf(Array.get(part, p), seen);
            }
            return elements;
        }
        for (Field field : part.getClass().getDeclaredFields()) {
            if (!Modifier.isStatic(field.getModifiers())) {
                field.setAccessible(true);
                elements++;
                try {
                    elements += elementsOf(field.get(part), seen);
                } catch (IllegalAccessException closed) {
                    holds("can be seen: " + field, false);
                }
            }
        }
        return elements;
    }
}
