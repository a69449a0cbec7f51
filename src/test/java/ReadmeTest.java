import java.lang.reflect.InvocationTargetException;
import java.lang.reflect.Method;
import java.lang.reflect.Modifier;
import java.nio.file.Files;
import java.nio.file.Path;
import java.util.NoSuchElementException;
import java.util.regex.Matcher;
import java.util.regex.Pattern;

/** Each call that README.md shows answers what README.md says, and each call of the face is told there. */
public final class ReadmeTest {
    private static final Due due = new Due();
    private static final Pattern CALL = Pattern.compile("x\\.(\\w+)\\((.*?)\\); +// (-?\\d+|true|false|throws \\w+).*");

    private static Object number(Class<?> type, String text) {
        return type == boolean.class ? (Object) text.equals("true") : (Object) Integer.decode(text).intValue();
    }

    private static Method named(String name) {
        for (Method m : GapRows.class.getMethods()) {
            if (m.getName().equals(name)) {
                return m;
            }
        }
        throw new IllegalArgumentException(name);
    }

    private static String answer(GapRows x, String name, String args) throws Exception {
        Method method = named(name);
        Class<?>[] types = method.getParameterTypes();
        String[] texts = args.isEmpty() ? new String[0] : args.split(", ");
        due.same("arguments of " + name, texts.length, types.length);
        Object[] given = new Object[types.length];
        for (int i = 0; i < types.length; i++) {
            given[i] = number(types[i], texts[i]);
        }
        try {
            return String.valueOf(method.invoke(x, given));
        } catch (InvocationTargetException e) {
            return e.getCause() instanceof NoSuchElementException ? "throws NoSuchElementException" : "" + e.getCause();
        }
    }

    private static void calls(String page) throws Exception {
        GapRows x = null;
        boolean code = false;
        int asked = 0;
        for (String line : page.split("\n")) {
            if (line.startsWith("```")) {
                code = line.equals("```java");
            } else if (code && line.equals("GapRows x = new GapRows();")) {
                x = new GapRows();
            } else if (code && !line.startsWith("//")) {
                Matcher m = CALL.matcher(line);
                boolean told = m.matches();
                due.yes("a call with its answer: " + line, told);
                due.yes(line, told && answer(x, m.group(1), m.group(2)).equals(m.group(3)));
                asked++;
            }
        }
        due.yes("calls are shown: " + asked, asked >= 40 && asked <= 512);
    }

    private static void face(String page) {
        for (Method m : GapRows.class.getDeclaredMethods()) {
            boolean told = Pattern.compile("[`.]" + m.getName() + "[`(]").matcher(page).find();
            due.yes(m.getName() + " is told of", told || !Modifier.isPublic(m.getModifiers()));
        }
    }

    public static void main(String[] args) throws Exception {
        String page = Files.readString(Path.of("README.md"));
        calls(page);
        face(page);
        due.finish();
    }
}
