import java.lang.reflect.InvocationTargetException;
import java.lang.reflect.Method;
import java.lang.reflect.Modifier;
import java.util.ArrayList;
import java.util.Arrays;
import java.util.Comparator;
import java.util.List;
import java.util.NoSuchElementException;
import java.util.Random;

/** All promises: runs of up to 512 calls, by told seeds, of GapRows and of the slow Model beside it. */
public final class ModelTest {
    private static final int RUNS = 120;
    private static final int CALLS = 480;
    private static final String[] SCRAPS = {"ranks", "stream", "push", "error", "every", "a", "b", "c", "abcdef",
        "abcdefg", "0", "1", "2", "40", "41", "60", "61", "999", "1000", ";", ";", " ", "?", "A", "ranks error 10",
        ";stream a every 5", ";stream b every 1", ";push a 1 2 3", "\n", "\u00e9"};

    private final Random random;
    // every other run lets its STREAMS grow till there is no room
    private final boolean grows;
    private final GapRows real = new GapRows();
    private final Model model = new Model();
    private final List<String> told = new ArrayList<>();
    private int wrong = 0;

    private ModelTest(int seed) {
        random = new Random(seed);
        grows = seed % 2 == 1;
    }

    private int of(int n) {
        return random.nextInt(n);
    }

    private static Object call(Object target, Method method, Object[] args) throws Exception {
        Method own = target.getClass().getDeclaredMethod(method.getName(), method.getParameterTypes());
        own.setAccessible(true);
        try {
            return own.invoke(target, args);
        } catch (InvocationTargetException e) {
            if (e.getCause() instanceof NoSuchElementException) {
                return "throws.NoSuchElementException";
            }
            return "throws." + e.getCause();
        }
    }

    private void ask(Method method, Object... args) throws Exception {
        Object got = call(real, method, args);
        Object want = call(model, method, args);
        told.add(method.getName() + Arrays.toString(args) + " -> " + got);
        if (!got.equals(want) || real.trouble() != model.trouble() || real.where() != model.where()
            || real.fault() != model.fault() || real.size() != model.size()) {
            wrong++;
            System.out.println(method.getName() + Arrays.toString(args) + " answered " + got + ", due is " + want
                + "; trouble " + real.trouble() + "/" + model.trouble() + ", where " + real.where() + "/"
                + model.where() + ", fault " + real.fault() + "/" + model.fault());
        }
    }

    private void putText(String text) throws Exception {
        Method feed = GapRows.class.getMethod("feed", int.class, int.class, int.class, int.class, int.class);
        for (int[] f : Due.fives(text)) {
            ask(feed, f[0], f[1], f[2], f[3], f[4]);
        }
        ask(GapRows.class.getMethod("ranks", int.class), text.length());
    }

    private String goodText() {
        StringBuilder text = new StringBuilder("ranks error ").append(2 + of(39));
        int streams = 1 + of(4);
        for (int s = 0; s < streams; s++) {
            int every = of(3) == 0 ? 1 + of(4) : 1 + of(60);
            text.append(";stream ").append((char) ('a' + s)).append(" every ").append(every);
        }
        int kinds = of(2) == 0 ? 10 : 1000;
        for (int i = of(5); i > 0; i--) {
            text.append(";push ").append((char) ('a' + of(streams)));
            for (int j = 1 + of(10); j > 0; j--) {
                text.append(' ').append(of(kinds));
            }
        }
        return text.toString();
    }

    private String wildText() {
        StringBuilder text = new StringBuilder(of(4) == 0 ? "" : goodText());
        if (of(2) == 0 && text.length() > 0) {
            text.setLength(of(text.length()));
        }
        for (int i = of(4); i > 0; i--) {
            int at = of(3) == 0 ? of(text.length() + 1) : text.length();
            text.insert(at, SCRAPS[of(SCRAPS.length)] + (of(2) == 0 ? " " : ""));
        }
        text.setLength(Math.min(text.length(), 380));
        return text.toString();
    }

    private int wild() {
        int[] edges = {-2, -1, 0, 1, 2, 3, 4, 5, 12, 13, 40, 41, 60, 61, 99, 100, 101, 200, 201, 999, 1000, 1001,
            65536, 65537, Integer.MAX_VALUE, Integer.MIN_VALUE};
        return of(3) == 0 ? random.nextInt() : edges[of(edges.length)];
    }

    private int someStream() {
        return of(12) == 0 ? of(6) - 1 : of(Math.max(1, model.about(1)));
    }

    private int likely(String name, int i, int streamsValues) {
        if (of(25) == 0) {
            return wild();
        }
        boolean two = name.matches("meets|apart|would|wins|merge");
        boolean none = name.matches("about|band|seed|error|whole|overall|idle|feed|ranks");
        if (!none && i == 0 || two && i == 1) {
            return someStream();
        }
        switch (name) {
            case "answer":
            case "bounds":
            case "sorted":
            case "miss":
                return i == 1 ? of(streamsValues + 3) : of(3);
            case "overall":
                return i == 0 ? of(Math.max(3, model.about(2) + 3)) : of(2);
            case "tuple":
            case "goes":
                return i == 1 ? of(Math.max(2, Math.min(60, streamsValues + 3))) : of(7);
            case "stream":
            case "about":
                return of(10);
            case "quota":
                return i == 1 ? of(30) : i == 2 ? 1 + of(100) : of(3);
            case "bar":
                return i == 1 ? of(20) : 1 + of(40);
            case "meets":
                return i == 2 ? 1 + of(100) : of(3);
            case "heavy":
                return i == 1 ? 1 + of(100) : of(3);
            case "rank":
            case "between":
            case "times":
            case "spread":
            case "push":
                return of(2) == 0 ? of(12) : of(1000);
            case "band":
                return of(3) == 0 ? of(1002) : of(20);
            case "bands":
                return of(13);
            case "coarse":
            case "error":
                return 2 + of(39);
            case "draw":
                return i == 1 ? 1 + of(of(2) == 0 ? 10 : 200) : 1 + of(of(2) == 0 ? 10 : 1000);
            case "seed":
                return of(65537);
            case "every":
                return of(62);
            default:
                return of(4);
        }
    }

    /** A call with arguments that are mostly good; the places asked are taken anew, so the state of both stays. */
    private void someCall(List<Method> methods) throws Exception {
        Method method = methods.get(of(methods.size()));
        if (grows && of(12) == 0) {
            method = GapRows.class.getMethod("draw", int.class, int.class, int.class);
        }
        String name = method.getName();
        if (name.matches("clear|ranks") && of(grows ? 60 : 3) != 0 || name.matches("merge|error") && of(3) != 0) {
            return;
        }
        if (name.equals("ranks")) {
            putText(of(3) == 0 ? goodText() : wildText());
            return;
        }
        Class<?>[] types = method.getParameterTypes();
        Object[] args = new Object[types.length];
        for (int i = 0; i < types.length; i++) {
            int values = i > 0 && types[0] == int.class ? Math.max(0, model.stream((Integer) args[0], 0)) : 0;
            args[i] = types[i] == boolean.class ? (Object) (of(2) == 0) : (Object) likely(name, i, values);
        }
        // the model was asked above for what lies in it: bring both to the same latest call, refused or not
        int bound = of(2);
        real.band(0, bound);
        model.band(0, bound);
        ask(method, args);
    }

    private void compareRows() throws Exception {
        Method tuple = GapRows.class.getMethod("tuple", int.class, int.class, int.class);
        Method goes = GapRows.class.getMethod("goes", int.class, int.class);
        Method stream = GapRows.class.getMethod("stream", int.class, int.class);
        for (int s = 0; s < 4; s++) {
            for (int what = 0; what <= 9; what++) {
                ask(stream, s, what);
            }
            int tuples = model.stream(s, 1);
            real.stream(s, 1);
            for (int i = 0; i < tuples; i++) {
                for (int what = 0; what <= 6; what++) {
                    ask(tuple, s, i, what);
                }
                ask(goes, s, i);
            }
        }
    }

    private int run() throws Exception {
        List<Method> methods = new ArrayList<>();
        for (Method m : GapRows.class.getDeclaredMethods()) {
            if (Modifier.isPublic(m.getModifiers())) {
                methods.add(m);
            }
        }
        methods.sort(Comparator.comparing(Method::getName));
        if (of(5) != 0) {
            putText(goodText());
        }
        for (int i = 0; i < CALLS && wrong == 0; i++) {
            someCall(methods);
        }
        compareRows();
        return wrong;
    }

    public static void main(String[] args) throws Exception {
        int from = args.length > 0 ? Integer.parseInt(args[0]) : 0;
        int runs = args.length > 1 ? Integer.parseInt(args[1]) : RUNS;
        for (int seed = from; seed < from + runs; seed++) {
            ModelTest test = new ModelTest(seed);
            if (test.run() > 0) {
                System.out.println("in the run of seed " + seed + ", behind these calls:");
                int last = test.told.size();
                test.told.subList(Math.max(0, last - 30), last).forEach(System.out::println);
                System.exit(1);
            }
        }
        System.out.println("all answers are as due");
    }
}
