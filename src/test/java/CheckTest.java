import java.lang.reflect.Field;

/**
 * Promise 11: what check() answers to a ROW that is wrong. No run of calls makes one,
 * so each is made here by changing what lies inside the object.
 */
public final class CheckTest {
    private static final Due due = new Due();

    private static Object inside(Object owner, String name) throws Exception {
        Field field = owner.getClass().getDeclaredField(name);
        field.setAccessible(true);
        return field.get(owner);
    }

    /** 10 (1, 0), 20 (1, 0), 35 (1, 3), 60 (4, 0), 100 (4, 0); N 11, BOUND 4. */
    private static GapRows good() {
        GapRows x = Due.of("ranks error 5;stream one every 60;push one 10 20 30 40 50 60 70 80 90 100");
        x.compress(0);
        x.push(0, 35);
        due.told(x, "check(0) of a good ROW", x.check(0), 0);
        return x;
    }

    /** Sets numbers of one array of the ROW (index, number, ..) and asks. */
    private static void wrong(int want, String array, int... pairs) throws Exception {
        GapRows x = good();
        Object stream = ((Object[]) inside(x, "streams"))[0];
        int[] numbers = (int[]) inside(inside(stream, "row"), array);
        for (int i = 0; i < pairs.length; i += 2) {
            numbers[pairs[i]] = pairs[i + 1];
        }
        due.told(x, "check(0) of " + array + " at " + pairs[0] + " set to " + pairs[1], x.check(0), want);
    }

    private static void wrongCount(int n, int want) throws Exception {
        GapRows x = good();
        Object stream = ((Object[]) inside(x, "streams"))[0];
        Field field = stream.getClass().getDeclaredField("n");
        field.setAccessible(true);
        field.setInt(stream, n);
        due.told(x, "check(0) of N " + n, x.check(0), want);
    }

    /** Sets a number of each of two arrays of the ROW, and N, and asks. */
    private static void twoWrong(int want, String[] arrays, int[] indexes, int[] numbers, int n) throws Exception {
        GapRows x = good();
        Object stream = ((Object[]) inside(x, "streams"))[0];
        for (int i = 0; i < arrays.length; i++) {
            ((int[]) inside(inside(stream, "row"), arrays[i]))[indexes[i]] = numbers[i];
        }
        Field field = stream.getClass().getDeclaredField("n");
        field.setAccessible(true);
        field.setInt(stream, n);
        due.told(x, "check(0) of two that are wrong, " + want + " first", x.check(0), want);
    }

    private static void firstOfTwo() throws Exception {
        due.by("check: the first that is wrong");
        String[] valueAndSpread = {"value", "spreads"};
        // the TUPLE that falls stands behind the one with a wrong SPREAD
        twoWrong(1, valueAndSpread, new int[] {4, 1}, new int[] {59, -1}, 11);
        twoWrong(1, valueAndSpread, new int[] {4, 2}, new int[] {59, 4}, 11);
        twoWrong(1, valueAndSpread, new int[] {4, 0}, new int[] {59, 1}, 11);
        twoWrong(1, valueAndSpread, new int[] {4, 1}, new int[] {59, 0}, 12);
        String[] spreads = {"spreads", "spreads"};
        twoWrong(2, spreads, new int[] {3, 2}, new int[] {-1, 4}, 11);
        twoWrong(2, spreads, new int[] {3, 0}, new int[] {-1, 1}, 11);
        twoWrong(2, spreads, new int[] {3, 1}, new int[] {-1, 0}, 12);
        twoWrong(3, spreads, new int[] {2, 1}, new int[] {4, 0}, 12);
        twoWrong(3, spreads, new int[] {0, 1}, new int[] {1, 0}, 10);
        twoWrong(4, spreads, new int[] {2, 0}, new int[] {4, 1}, 11);
    }

    public static void main(String[] args) throws Exception {
        wrong(1, "value", 1, 9);
        wrong(1, "value", 4, 59);
        wrong(0, "value", 1, 10);
        // LOWS are 1, 2, 3, 7, 11
        wrong(2, "low", 0, 0);
        wrong(2, "low", 1, 1);
        wrong(2, "low", 4, 7);
        wrong(2, "spreads", 2, -1);
        wrong(2, "spreads", 0, -1);
        wrong(2, "spreads", 4, -1);
        wrong(3, "low", 4, 10);
        wrong(3, "low", 4, 12);
        wrongCount(12, 3);
        wrongCount(10, 3);
        wrong(4, "spreads", 2, 4);
        wrong(4, "spreads", 4, 1);
        wrong(4, "low", 2, 2 + 2);
        wrong(0, "spreads", 2, 0);
        wrong(0, "spreads", 1, 3);
        wrong(5, "spreads", 0, 1);
        // GAP of the first is 2
        wrong(5, "low", 0, 2, 1, 3, 2, 4);
        lastSpread();
        // the first that is wrong counts
        wrong(1, "value", 1, 9, 2, 8);
        firstOfTwo();
        due.finish();
    }

    /** The last one has a SPREAD, but GAP and SPREAD are not above BOUND. */
    private static void lastSpread() throws Exception {
        GapRows x = Due.of("ranks error 2;stream one every 60;push one 1 2 3");
        due.told(x, "check(0)", x.check(0), 0);
        Object stream = ((Object[]) inside(x, "streams"))[0];
        ((int[]) inside(inside(stream, "row"), "spreads"))[2] = 1;
        due.told(x, "check(0) of a last SPREAD of 1", x.check(0), 5);
    }
}
