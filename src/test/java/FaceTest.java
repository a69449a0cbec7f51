import java.io.IOException;
import java.lang.reflect.Constructor;
import java.lang.reflect.Field;
import java.lang.reflect.Method;
import java.lang.reflect.Modifier;
import java.nio.file.Files;
import java.nio.file.Path;
import java.util.Arrays;
import java.util.HashSet;
import java.util.Set;
import java.util.TreeSet;
import java.util.regex.Matcher;
import java.util.regex.Pattern;

/** The document's public face, and those rules of LANGUAGE.md that can be read off the class or its text. */
public final class FaceTest {
    private static final Due due = new Due();
    private static final String[] FACE = {"int feed(int, int, int, int, int)", "int ranks(int)", "int fault()",
        "int where()", "int about(int)", "int stream(int, int)", "int tuple(int, int, int)", "int goes(int, int)",
        "int band(int, int)", "int check(int)", "int answer(int, int, int)", "int quota(int, int, int, int)",
        "int rank(int, int, boolean)", "int between(int, int, int, boolean)", "int exact(int)", "int worst(int)",
        "int bounds(int, int, int)", "int unsure(int, int)", "int total(int, boolean)", "int bands(int, int)",
        "int bar(int, int, int, boolean)", "int uneven(int, int)", "int meets(int, int, int, int)", "int sum(int)",
        "int sorted(int, int)", "int times(int, int)", "int miss(int, int)", "int missed(int)",
        "int heavy(int, int, int)", "int apart(int, int)", "int would(int, int)", "int wins(int, int, boolean)",
        "int whole(int)", "int overall(int, int)", "int rounds(int)", "int coarse(int, int)", "int spread(int, int)",
        "int finest(int)", "int push(int, int)", "int draw(int, int, int)", "boolean seed(int)", "int compress(int)",
        "int merge(int, int)", "int clear(int)", "int every(int, int)", "int error(int)", "int idle(int)",
        "int size()", "int trouble()"};

    private static String head(Method m) {
        StringBuilder types = new StringBuilder();
        for (Class<?> type : m.getParameterTypes()) {
            types.append(types.length() == 0 ? "" : ", ").append(type.getName());
        }
        return m.getReturnType().getName() + " " + m.getName() + "(" + types + ")";
    }

    private static void face() throws Exception {
        Class<?> c = GapRows.class;
        due.yes("public final class", Modifier.isPublic(c.getModifiers()) && Modifier.isFinal(c.getModifiers()));
        Set<String> told = new TreeSet<>();
        for (Method m : c.getDeclaredMethods()) {
            if (Modifier.isPublic(m.getModifiers())) {
                told.add(head(m));
                due.yes(m.getName() + " is of the object", !Modifier.isStatic(m.getModifiers()));
            } else {
                due.yes(m.getName() + " is private", Modifier.isPrivate(m.getModifiers()));
            }
        }
        due.yes("methods " + told, told.equals(new TreeSet<>(Arrays.asList(FACE))));
        Constructor<?>[] constructors = c.getDeclaredConstructors();
        due.same("constructors", constructors.length, 1);
        due.yes("GapRows()", Modifier.isPublic(constructors[0].getModifiers())
            && constructors[0].getParameterCount() == 0);
        for (Field f : c.getDeclaredFields()) {
            due.yes(f.getName() + " is private", Modifier.isPrivate(f.getModifiers()) || f.getName().equals("NONE"));
        }
        Field none = c.getField("NONE");
        due.yes("NONE is a constant", none.getModifiers() == (Modifier.PUBLIC | Modifier.STATIC | Modifier.FINAL)
            && none.getType() == int.class);
        due.yes("no class above", c.getSuperclass() == Object.class && c.getInterfaces().length == 0);
    }

    private static void classesInside() {
        Set<String> names = new HashSet<>();
        for (String head : FACE) {
            names.add(head.replaceAll("^\\w+ (\\w+)\\(.*", "$1"));
        }
        for (Method m : GapRows.class.getDeclaredMethods()) {
            due.yes(m + " is no face's name", Modifier.isPublic(m.getModifiers()) || !names.contains(m.getName()));
        }
        for (Class<?> c : GapRows.class.getDeclaredClasses()) {
            due.yes(c + " is static", Modifier.isStatic(c.getModifiers()) && !Modifier.isPublic(c.getModifiers()));
            int fields = 0;
            for (Field f : c.getDeclaredFields()) {
                boolean isStatic = Modifier.isStatic(f.getModifiers());
                due.yes(f + ": static means final", !isStatic || Modifier.isFinal(f.getModifiers()));
                fields += isStatic ? 0 : 1;
            }
            due.yes(c + " has few fields", fields <= 20);
            for (Method m : c.getDeclaredMethods()) {
                due.yes(m + " is no face's name", !names.contains(m.getName()));
                due.yes(m + " has few parameters", m.getParameterCount() <= 7);
            }
        }
    }

    private static void words() throws IOException {
        String text = Files.readString(Path.of("src/main/java/GapRows.java"));
        String code = text.replaceAll("(?s)/\\*.*?\\*/", "").replaceAll("//[^\n]*", "").replaceAll("\"[^\"]*\"", "");
        for (String word : new String[] {"package", "try", "catch", "finally", "synchronized", "assert", "lambda",
            "->", "::", "System\\.(?!arraycopy)", "Math\\.\\w*Exact", "volatile", "native", "protected"}) {
            String pattern = word.matches("\\w+") ? "\\b" + word + "\\b" : word;
            due.yes("no " + word, !Pattern.compile(pattern).matcher(code).find());
        }
        Matcher imports = Pattern.compile("import ([\\w.]+);").matcher(code);
        while (imports.find()) {
            due.yes(imports.group(1), imports.group(1).matches("java\\.util\\.(Arrays|NoSuchElementException)"));
        }
        due.same("throw statements", Pattern.compile("\\bthrow\\b").matcher(code).results().count(), 1);
        shortMethods(text);
    }

    private static void shortMethods(String text) {
        String indent = null;
        int begun = 0;
        String[] lines = text.split("\n");
        for (int i = 0; i < lines.length; i++) {
            if (indent == null && lines[i].matches(" {4}( {4})?[\\w<>\\[\\] ]+\\([^;]*\\{") && !lines[i].contains(" new ")) {
                indent = lines[i].replaceAll("\\S.*", "");
                begun = i;
            } else if (indent != null && lines[i].equals(indent + "}")) {
                due.yes("short: " + lines[begun].trim(), i - begun <= 60);
                indent = null;
            }
        }
    }

    public static void main(String[] args) throws Exception {
        face();
        classesInside();
        words();
        due.finish();
    }
}
