import java.nio.charset.StandardCharsets;
import java.util.NoSuchElementException;

/** What the tests share: answers against those due, and texts put on a tape. */
final class Due {
    private int wrong = 0;

    void same(String call, long got, long want) {
        if (got != want) {
            wrong++;
            System.out.println(call + " answered " + got + ", due is " + want);
        }
    }

    void yes(String what, boolean holds) {
        same(what, holds ? 1 : 0, 1);
    }

    /** The call answered NONE, for this reason, and where() tells nothing of it. */
    void refused(GapRows x, String call, long got, int trouble) {
        same(call, got, GapRows.NONE);
        same(call + ", trouble()", x.trouble(), trouble);
        same(call + ", where()", x.where(), GapRows.NONE);
    }

    /** The call answered this and was not refused. */
    void told(GapRows x, String call, long got, long want) {
        same(call, got, want);
        same(call + ", trouble()", x.trouble(), 0);
    }

    void noIdle(GapRows x, int i) {
        boolean thrown = false;
        try {
            x.idle(i);
        } catch (NoSuchElementException e) {
            thrown = true;
        }
        yes("idle(" + i + ") throws NoSuchElementException", thrown);
    }

    void finish() {
        System.out.println(wrong == 0 ? "all answers are as due" : wrong + " answers are not as due");
        if (wrong != 0) {
            System.exit(1);
        }
    }

    static void feed(GapRows x, String text) {
        for (int[] five : fives(text)) {
            x.feed(five[0], five[1], five[2], five[3], five[4]);
        }
    }

    static int put(GapRows x, String text) {
        feed(x, text);
        return x.ranks(text.length());
    }

    static GapRows of(String text) {
        GapRows x = new GapRows();
        put(x, text);
        return x;
    }

    /** The text by twenty bytes each, as feed() takes them, blanks behind it. */
    static int[][] fives(String text) {
        byte[] bytes = text.getBytes(StandardCharsets.ISO_8859_1);
        int[][] fives = new int[(bytes.length + 19) / 20][5];
        for (int i = 0; i < fives.length * 20; i++) {
            int b = i < bytes.length ? bytes[i] & 255 : 32;
            fives[i / 20][i % 20 / 4] = fives[i / 20][i % 20 / 4] << 8 | b;
        }
        return fives;
    }
}
